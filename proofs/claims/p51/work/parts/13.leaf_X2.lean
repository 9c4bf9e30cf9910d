abbrev cX2_bitIn : ByteArray := prog_4_method_16_code
def yX2_bitIn : MethodName := ⟨RX2, "bitIn", "(II)J"⟩
abbrev cX2_isIn : ByteArray := prog_4_method_7_code
def yX2_isIn : MethodName := ⟨RX2, "isIn", "([JII)Z"⟩
abbrev cX2_lowerLeft : ByteArray := prog_4_method_24_code
def yX2_lowerLeft : MethodName := ⟨RX2, "lowerLeft", "(I)V"⟩
abbrev cX2_noteUse : ByteArray := prog_4_method_5_code
def yX2_noteUse : MethodName := ⟨RX2, "noteUse", "(II)V"⟩
abbrev cX2_put : ByteArray := prog_4_method_6_code
def yX2_put : MethodName := ⟨RX2, "put", "([JII)V"⟩
abbrev cX2_registerBit : ByteArray := prog_4_method_26_code
def yX2_registerBit : MethodName := ⟨RX2, "registerBit", "(I)I"⟩
theorem dX2_bitIn_0 : decode cX2_bitIn 0 = .ok (.iload_n 2, 1) := by decide +kernel
theorem dX2_bitIn_1 : decode cX2_bitIn 1 = .ok (.ifCond .lt 28, 3) := by decide +kernel
theorem dX2_bitIn_4 : decode cX2_bitIn 4 = .ok (.iload_n 2, 1) := by decide +kernel
theorem dX2_bitIn_5 : decode cX2_bitIn 5 = .ok (.aload_n 0, 1) := by decide +kernel
theorem dX2_bitIn_6 : decode cX2_bitIn 6 = .ok (.getfield 58, 3) := by decide +kernel
theorem dX2_bitIn_9 : decode cX2_bitIn 9 = .ok (.if_icmp .ge 20, 3) := by decide +kernel
theorem dX2_bitIn_12 : decode cX2_bitIn 12 = .ok (.iload_n 2, 1) := by decide +kernel
theorem dX2_bitIn_13 : decode cX2_bitIn 13 = .ok (.bipush 6, 2) := by decide +kernel
theorem dX2_bitIn_15 : decode cX2_bitIn 15 = .ok (.ishr, 1) := by decide +kernel
theorem dX2_bitIn_16 : decode cX2_bitIn 16 = .ok (.iload_n 1, 1) := by decide +kernel
theorem dX2_bitIn_17 : decode cX2_bitIn 17 = .ok (.if_icmp .ne 12, 3) := by decide +kernel
theorem dX2_bitIn_20 : decode cX2_bitIn 20 = .ok (.lconst 1, 1) := by decide +kernel
theorem dX2_bitIn_21 : decode cX2_bitIn 21 = .ok (.iload_n 2, 1) := by decide +kernel
theorem dX2_bitIn_22 : decode cX2_bitIn 22 = .ok (.bipush 63, 2) := by decide +kernel
theorem dX2_bitIn_24 : decode cX2_bitIn 24 = .ok (.iand, 1) := by decide +kernel
theorem dX2_bitIn_25 : decode cX2_bitIn 25 = .ok (.lshl, 1) := by decide +kernel
theorem dX2_bitIn_26 : decode cX2_bitIn 26 = .ok (.goto 4, 3) := by decide +kernel
theorem dX2_bitIn_29 : decode cX2_bitIn 29 = .ok (.lconst 0, 1) := by decide +kernel
theorem dX2_bitIn_30 : decode cX2_bitIn 30 = .ok (.lreturn, 1) := by decide +kernel
theorem dX2_isIn_0 : decode cX2_isIn 0 = .ok (.aload_n 1, 1) := by decide +kernel
theorem dX2_isIn_1 : decode cX2_isIn 1 = .ok (.iload_n 2, 1) := by decide +kernel
theorem dX2_isIn_2 : decode cX2_isIn 2 = .ok (.aload_n 0, 1) := by decide +kernel
theorem dX2_isIn_3 : decode cX2_isIn 3 = .ok (.getfield 65, 3) := by decide +kernel
theorem dX2_isIn_6 : decode cX2_isIn 6 = .ok (.imul, 1) := by decide +kernel
theorem dX2_isIn_7 : decode cX2_isIn 7 = .ok (.iload_n 3, 1) := by decide +kernel
theorem dX2_isIn_8 : decode cX2_isIn 8 = .ok (.bipush 6, 2) := by decide +kernel
theorem dX2_isIn_10 : decode cX2_isIn 10 = .ok (.ishr, 1) := by decide +kernel
theorem dX2_isIn_11 : decode cX2_isIn 11 = .ok (.iadd, 1) := by decide +kernel
theorem dX2_isIn_12 : decode cX2_isIn 12 = .ok (.laload, 1) := by decide +kernel
theorem dX2_isIn_13 : decode cX2_isIn 13 = .ok (.iload_n 3, 1) := by decide +kernel
theorem dX2_isIn_14 : decode cX2_isIn 14 = .ok (.bipush 63, 2) := by decide +kernel
theorem dX2_isIn_16 : decode cX2_isIn 16 = .ok (.iand, 1) := by decide +kernel
theorem dX2_isIn_17 : decode cX2_isIn 17 = .ok (.invokestatic 154, 3) := by decide +kernel
theorem dX2_isIn_20 : decode cX2_isIn 20 = .ok (.ireturn, 1) := by decide +kernel
theorem dX2_lowerLeft_0 : decode cX2_lowerLeft 0 = .ok (.aload_n 0, 1) := by decide +kernel
theorem dX2_lowerLeft_1 : decode cX2_lowerLeft 1 = .ok (.getfield 52, 3) := by decide +kernel
theorem dX2_lowerLeft_4 : decode cX2_lowerLeft 4 = .ok (.iload_n 1, 1) := by decide +kernel
theorem dX2_lowerLeft_5 : decode cX2_lowerLeft 5 = .ok (.iaload, 1) := by decide +kernel
theorem dX2_lowerLeft_6 : decode cX2_lowerLeft 6 = .ok (.iconst (-1), 1) := by decide +kernel
theorem dX2_lowerLeft_7 : decode cX2_lowerLeft 7 = .ok (.if_icmp .eq 13, 3) := by decide +kernel
theorem dX2_lowerLeft_10 : decode cX2_lowerLeft 10 = .ok (.aload_n 0, 1) := by decide +kernel
theorem dX2_lowerLeft_11 : decode cX2_lowerLeft 11 = .ok (.getfield 52, 3) := by decide +kernel
theorem dX2_lowerLeft_14 : decode cX2_lowerLeft 14 = .ok (.iload_n 1, 1) := by decide +kernel
theorem dX2_lowerLeft_15 : decode cX2_lowerLeft 15 = .ok (.dup2, 1) := by decide +kernel
theorem dX2_lowerLeft_16 : decode cX2_lowerLeft 16 = .ok (.iaload, 1) := by decide +kernel
theorem dX2_lowerLeft_17 : decode cX2_lowerLeft 17 = .ok (.iconst 1, 1) := by decide +kernel
theorem dX2_lowerLeft_18 : decode cX2_lowerLeft 18 = .ok (.isub, 1) := by decide +kernel
theorem dX2_lowerLeft_19 : decode cX2_lowerLeft 19 = .ok (.iastore, 1) := by decide +kernel
theorem dX2_lowerLeft_20 : decode cX2_lowerLeft 20 = .ok (.return_, 1) := by decide +kernel
theorem dX2_noteUse_0 : decode cX2_noteUse 0 = .ok (.iload_n 2, 1) := by decide +kernel
theorem dX2_noteUse_1 : decode cX2_noteUse 1 = .ok (.aload_n 0, 1) := by decide +kernel
theorem dX2_noteUse_2 : decode cX2_noteUse 2 = .ok (.getfield 58, 3) := by decide +kernel
theorem dX2_noteUse_5 : decode cX2_noteUse 5 = .ok (.if_icmp .ge 26, 3) := by decide +kernel
theorem dX2_noteUse_8 : decode cX2_noteUse 8 = .ok (.aload_n 0, 1) := by decide +kernel
theorem dX2_noteUse_9 : decode cX2_noteUse 9 = .ok (.aload_n 0, 1) := by decide +kernel
theorem dX2_noteUse_10 : decode cX2_noteUse 10 = .ok (.getfield 15, 3) := by decide +kernel
theorem dX2_noteUse_13 : decode cX2_noteUse 13 = .ok (.iload_n 1, 1) := by decide +kernel
theorem dX2_noteUse_14 : decode cX2_noteUse 14 = .ok (.iload_n 2, 1) := by decide +kernel
theorem dX2_noteUse_15 : decode cX2_noteUse 15 = .ok (.invokevirtual 150, 3) := by decide +kernel
theorem dX2_noteUse_18 : decode cX2_noteUse 18 = .ok (.ifCond .ne 13, 3) := by decide +kernel
theorem dX2_noteUse_21 : decode cX2_noteUse 21 = .ok (.aload_n 0, 1) := by decide +kernel
theorem dX2_noteUse_22 : decode cX2_noteUse 22 = .ok (.aload_n 0, 1) := by decide +kernel
theorem dX2_noteUse_23 : decode cX2_noteUse 23 = .ok (.getfield 11, 3) := by decide +kernel
theorem dX2_noteUse_26 : decode cX2_noteUse 26 = .ok (.iload_n 1, 1) := by decide +kernel
theorem dX2_noteUse_27 : decode cX2_noteUse 27 = .ok (.iload_n 2, 1) := by decide +kernel
theorem dX2_noteUse_28 : decode cX2_noteUse 28 = .ok (.invokevirtual 140, 3) := by decide +kernel
theorem dX2_noteUse_31 : decode cX2_noteUse 31 = .ok (.return_, 1) := by decide +kernel
theorem dX2_put_0 : decode cX2_put 0 = .ok (.aload_n 1, 1) := by decide +kernel
theorem dX2_put_1 : decode cX2_put 1 = .ok (.iload_n 2, 1) := by decide +kernel
theorem dX2_put_2 : decode cX2_put 2 = .ok (.aload_n 0, 1) := by decide +kernel
theorem dX2_put_3 : decode cX2_put 3 = .ok (.getfield 65, 3) := by decide +kernel
theorem dX2_put_6 : decode cX2_put 6 = .ok (.imul, 1) := by decide +kernel
theorem dX2_put_7 : decode cX2_put 7 = .ok (.iload_n 3, 1) := by decide +kernel
theorem dX2_put_8 : decode cX2_put 8 = .ok (.bipush 6, 2) := by decide +kernel
theorem dX2_put_10 : decode cX2_put 10 = .ok (.ishr, 1) := by decide +kernel
theorem dX2_put_11 : decode cX2_put 11 = .ok (.iadd, 1) := by decide +kernel
theorem dX2_put_12 : decode cX2_put 12 = .ok (.dup2, 1) := by decide +kernel
theorem dX2_put_13 : decode cX2_put 13 = .ok (.laload, 1) := by decide +kernel
theorem dX2_put_14 : decode cX2_put 14 = .ok (.lconst 1, 1) := by decide +kernel
theorem dX2_put_15 : decode cX2_put 15 = .ok (.iload_n 3, 1) := by decide +kernel
theorem dX2_put_16 : decode cX2_put 16 = .ok (.bipush 63, 2) := by decide +kernel
theorem dX2_put_18 : decode cX2_put 18 = .ok (.iand, 1) := by decide +kernel
theorem dX2_put_19 : decode cX2_put 19 = .ok (.lshl, 1) := by decide +kernel
theorem dX2_put_20 : decode cX2_put 20 = .ok (.lor, 1) := by decide +kernel
theorem dX2_put_21 : decode cX2_put 21 = .ok (.lastore, 1) := by decide +kernel
theorem dX2_put_22 : decode cX2_put 22 = .ok (.return_, 1) := by decide +kernel
theorem dX2_registerBit_0 : decode cX2_registerBit 0 = .ok (.aload_n 0, 1) := by decide +kernel
theorem dX2_registerBit_1 : decode cX2_registerBit 1 = .ok (.getfield 49, 3) := by decide +kernel
theorem dX2_registerBit_4 : decode cX2_registerBit 4 = .ok (.iload_n 1, 1) := by decide +kernel
theorem dX2_registerBit_5 : decode cX2_registerBit 5 = .ok (.iaload, 1) := by decide +kernel
theorem dX2_registerBit_6 : decode cX2_registerBit 6 = .ok (.ifCond .ge 7, 3) := by decide +kernel
theorem dX2_registerBit_9 : decode cX2_registerBit 9 = .ok (.iconst 0, 1) := by decide +kernel
theorem dX2_registerBit_10 : decode cX2_registerBit 10 = .ok (.goto 11, 3) := by decide +kernel
theorem dX2_registerBit_13 : decode cX2_registerBit 13 = .ok (.iconst 1, 1) := by decide +kernel
theorem dX2_registerBit_14 : decode cX2_registerBit 14 = .ok (.aload_n 0, 1) := by decide +kernel
theorem dX2_registerBit_15 : decode cX2_registerBit 15 = .ok (.getfield 49, 3) := by decide +kernel
theorem dX2_registerBit_18 : decode cX2_registerBit 18 = .ok (.iload_n 1, 1) := by decide +kernel
theorem dX2_registerBit_19 : decode cX2_registerBit 19 = .ok (.iaload, 1) := by decide +kernel
theorem dX2_registerBit_20 : decode cX2_registerBit 20 = .ok (.ishl, 1) := by decide +kernel
theorem dX2_registerBit_21 : decode cX2_registerBit 21 = .ok (.ireturn, 1) := by decide +kernel
theorem qw375 : Cond.fieldLink RX2 58 "Gearbox$Graph" "homes" "I" ∈ gw := mq_3 (i := 23) rfl rfl
theorem qw377 : Cond.fieldLink RX2 65 "Gearbox$Graph" "width" "I" ∈ gw := mq_3 (i := 25) rfl rfl
theorem qw379 : Cond.code yX2_isIn cX2_isIn 4 (Option.some Jvm.ClassFile.FieldType.boolean) ∈ gw := mq_8 (i := 222) rfl rfl
theorem qw380 : Cond.methodLink RX2 150 yX2_isIn ∈ gw := mq_8 (i := 219) rfl rfl
theorem qw381 : Cond.instanceMethod yX2_isIn ∈ gw := mq_8 (i := 221) rfl rfl
theorem qw382 : Cond.selects RX2 yX2_isIn yX2_isIn ∈ gw := mk_s (i := 13) rfl rfl
theorem qw383 : Cond.initialized RX2 ∈ gw := mq_1 (i := 25) rfl rfl
theorem qw385 : Cond.code yX2_put cX2_put 4 (Option.none : Option Jvm.ClassFile.FieldType) ∈ gw := mq_8 (i := 227) rfl rfl
theorem qw386 : Cond.methodLink RX2 140 yX2_put ∈ gw := mq_8 (i := 224) rfl rfl
theorem qw387 : Cond.instanceMethod yX2_put ∈ gw := mq_8 (i := 226) rfl rfl
theorem qw388 : Cond.selects RX2 yX2_put yX2_put ∈ gw := mk_s (i := 14) rfl rfl
def sX2_bitIn_r (homes : Int32) (p0 : Int32) (p1 : Int32) : Int64 := (if p1 < 0 then 0 else (if homes ≤ p1 then 0 else (if (p1 >>> (6 &&& 31)) = p0 then (((1 : Int64) <<< (((p1 &&& 63) : Int32).toInt64 &&& 63))) else 0)))
set_option maxHeartbeats 4000000 in
set_option maxRecDepth 100000 in
theorem kX2_bitIn {zs : Nat × Nat} (l : Launch) (dC : Nat → ClassId) (dI : Nat → Nat → Nat) (h0 : Nat) (homes : Int32) (values : Int32) (width : Int32) (usesA : Nat) (givenInA : Nat) (liveInA : Nat) (liveA : Nat) (liveGuestsA : Nat) (guests : Int32) (chainA : Nat) (nearA : Nat) (mateA : Nat) (degreeA : Nat) (costA : Nat) (giversA : Nat) (giverA : Nat) (registerA : Nat) (leftA : Nat) (orderA : Nat) (p0 : Int32) (p1 : Int32) (sz : Nat)  : Met l yX2_bitIn (wz yX2_bitIn cX2_bitIn 3 (Option.some Jvm.ClassFile.FieldType.long)) ({ frames := 0, cells := 0, slots := 0, locals := 0 }) (va_Pc [.ref h0, .int p0, .int p1] (PRE zs dC dI [(h0, .inr (9, [.int homes, .int values, .int width, .ref usesA, .ref givenInA, .ref liveInA, .ref liveA, .ref liveGuestsA, .int guests, .ref chainA, .ref nearA, .ref mateA, .ref degreeA, .ref costA, .ref giversA, .ref giverA, .ref registerA, .ref leftA, .ref orderA]))] [] sz)) (va_Ql (fun (r : Int64) (_ : Unit) => r = (sX2_bitIn_r homes p0 p1)) (fun _ t => POST dC dI [(h0, .inr (9, [.int homes, .int values, .int width, .ref usesA, .ref givenInA, .ref liveInA, .ref liveA, .ref liveGuestsA, .int guests, .ref chainA, .ref nearA, .ref mateA, .ref degreeA, .ref costA, .ref giversA, .ref giverA, .ref registerA, .ref leftA, .ref orderA]))] [] (va_A [(h0, .inr (9, [.int homes, .int values, .int width, .ref usesA, .ref givenInA, .ref liveInA, .ref liveA, .ref liveGuestsA, .int guests, .ref chainA, .ref nearA, .ref mateA, .ref degreeA, .ref costA, .ref giversA, .ref giverA, .ref registerA, .ref leftA, .ref orderA]))] sz) t) (va_A [(h0, .inr (9, [.int homes, .int values, .int width, .ref usesA, .ref givenInA, .ref liveInA, .ref liveA, .ref liveGuestsA, .int guests, .ref chainA, .ref nearA, .ref mateA, .ref degreeA, .ref costA, .ref giversA, .ref giverA, .ref registerA, .ref leftA, .ref orderA]))] sz)) 0 0 (va_A [(h0, .inr (9, [.int homes, .int values, .int width, .ref usesA, .ref givenInA, .ref liveInA, .ref liveA, .ref liveGuestsA, .int guests, .ref chainA, .ref nearA, .ref mateA, .ref degreeA, .ref costA, .ref giversA, .ref giverA, .ref registerA, .ref leftA, .ref orderA]))] sz) := by
  refine Met.ofW (cc := cX2_bitIn) (maxL := 3) (ret := (Option.some Jvm.ClassFile.FieldType.long)) (by decide) rfl ?_
  intro p e s m args below meth c s₁ B hml hv
  obtain ⟨rfl, hsz, hP, hK, hD0, hE⟩ := hv
  have hx := B.exec
  have hb := B.bytes
  have hr := B.returns
  have hts0 := atoms_spec (ws := wz yX2_bitIn cX2_bitIn 3 (Option.some Jvm.ClassFile.FieldType.long)) B.pre
  have hts : ∀ w ∈ gw, w.before _ s = true := fun w h => hts0 w (List.mem_cons_of_mem _ h)
  have hown : s.vm.findClass RX2 = some m.cls := findClass_of_methodNamed B.named
  have hlocks := B.notSynchronized
  subst hsz
  have hD := hD0.self (sz := s.heap.size)
  generalize hAe : va_A [(h0, .inr (9, [.int homes, .int values, .int width, .ref usesA, .ref givenInA, .ref liveInA, .ref liveA, .ref liveGuestsA, .int guests, .ref chainA, .ref nearA, .ref mateA, .ref degreeA, .ref costA, .ref giversA, .ref giverA, .ref registerA, .ref leftA, .ref orderA]))] s.heap.size = A at hD hE ⊢
  have hA : ∀ q : Nat, s.heap.size ≤ q → A q := fun q h => by rw [← hAe]; exact Or.inr h
  have hS : va_S A s.heap s.heap [] := va_S.rf
  have hP : va_P (dC, dI) cls [(h0, .inr (9, [.int homes, .int values, .int width, .ref usesA, .ref givenInA, .ref liveInA, .ref liveA, .ref liveGuestsA, .int guests, .ref chainA, .ref nearA, .ref mateA, .ref degreeA, .ref costA, .ref giversA, .ref giverA, .ref registerA, .ref leftA, .ref orderA]))] s.heap := hP
  have hl := lv_entry ([.ref h0, .int p0, .int p1]) (n := 3) (Nat.le_of_ble_eq_true rfl)
  rw [lg_entry_eq]
  generalize (lg_sl ([.ref h0, .int p0, .int p1]) ++ List.replicate (3 - (lg_sl ([.ref h0, .int p0, .int p1])).length) Slot.unset).toArray = ls at hl ⊢
  have hl : lv_has ls 3 [(0, .ref h0), (1, .int p0), (2, .int p1)] := hl
  refine lv_iload_n hx hb dX2_bitIn_0 rfl (lv_at hl 2 rfl) ?_
  by_cases hc1 : p1 < 0
  · refine lv_if_lt (tgt := 29) hx hb dX2_bitIn_1 (by decide) (fun _ => ?_) (fun c => absurd hc1 c)
    refine lv_lconst (v := 0) hx hb dX2_bitIn_29 (by decide) ?_
    have e_sX2_bitIn_r : sX2_bitIn_r homes p0 p1 = 0 := by unfold sX2_bitIn_r; rw [if_pos hc1]
    have hP9 : va_P (dC, dI) cls [(h0, .inr (9, [.int homes, .int values, .int width, .ref usesA, .ref givenInA, .ref liveInA, .ref liveA, .ref liveGuestsA, .int guests, .ref chainA, .ref nearA, .ref mateA, .ref degreeA, .ref costA, .ref giversA, .ref giverA, .ref registerA, .ref leftA, .ref orderA]))] s.heap := by exact hP.sub [0] rfl
    have hD9 : va_D A [(h0, .inr (9, [.int homes, .int values, .int width, .ref usesA, .ref givenInA, .ref liveInA, .ref liveA, .ref liveGuestsA, .int guests, .ref chainA, .ref nearA, .ref mateA, .ref degreeA, .ref costA, .ref giversA, .ref giverA, .ref registerA, .ref leftA, .ref orderA]))] := by exact hD.sub [0] (by decide) rfl
    have hK9 : va_K (dC, dI) cls [] s := hK.sub [] rfl
    refine W.widen (k := 0) (n := 0) (Nat.le_of_ble_eq_true rfl) (Nat.le_of_ble_eq_true rfl) ?_
    exact W.lret (v := 0) hx hb hr (fun t ht hW => ⟨⟨0, (), rfl, e_sX2_bitIn_r.symm, ⟨by rw [ht]; exact hP9, va_K.moved hW.alike hK9, hD9⟩⟩, hS.F ht⟩) hS.2.2 dX2_bitIn_30
  · refine lv_if_lt (tgt := 29) hx hb dX2_bitIn_1 (by decide) (fun c => absurd c hc1) (fun _ => ?_)
    refine lv_iload_n hx hb dX2_bitIn_4 rfl (lv_at hl 2 rfl) ?_
    refine lv_aload_n hx hb dX2_bitIn_5 rfl (lv_at hl 0 rfl) ?_
    refine va_get (D := (dC, dI)) (ci := 9) (v := .int homes) (C := RX2) (T := TX2) (N := 19) hx hb hts i_X2 hown hK hP 0 rfl rfl 0 (by decide) (hts _ qw375) (fun _ h9 => h9) rfl dX2_bitIn_6 ?_
    by_cases hc2 : homes ≤ p1
    · refine lv_icmp_ge (tgt := 29) hx hb dX2_bitIn_9 (by decide) (fun _ => ?_) (fun c => absurd hc2 c)
      refine lv_lconst (v := 0) hx hb dX2_bitIn_29 (by decide) ?_
      have e_sX2_bitIn_r : sX2_bitIn_r homes p0 p1 = 0 := by unfold sX2_bitIn_r; rw [if_neg hc1, if_pos hc2]
      have hP9 : va_P (dC, dI) cls [(h0, .inr (9, [.int homes, .int values, .int width, .ref usesA, .ref givenInA, .ref liveInA, .ref liveA, .ref liveGuestsA, .int guests, .ref chainA, .ref nearA, .ref mateA, .ref degreeA, .ref costA, .ref giversA, .ref giverA, .ref registerA, .ref leftA, .ref orderA]))] s.heap := by exact hP.sub [0] rfl
      have hD9 : va_D A [(h0, .inr (9, [.int homes, .int values, .int width, .ref usesA, .ref givenInA, .ref liveInA, .ref liveA, .ref liveGuestsA, .int guests, .ref chainA, .ref nearA, .ref mateA, .ref degreeA, .ref costA, .ref giversA, .ref giverA, .ref registerA, .ref leftA, .ref orderA]))] := by exact hD.sub [0] (by decide) rfl
      have hK9 : va_K (dC, dI) cls [] s := hK.sub [] rfl
      refine W.widen (k := 0) (n := 0) (Nat.le_of_ble_eq_true rfl) (Nat.le_of_ble_eq_true rfl) ?_
      exact W.lret (v := 0) hx hb hr (fun t ht hW => ⟨⟨0, (), rfl, e_sX2_bitIn_r.symm, ⟨by rw [ht]; exact hP9, va_K.moved hW.alike hK9, hD9⟩⟩, hS.F ht⟩) hS.2.2 dX2_bitIn_30
    · refine lv_icmp_ge (tgt := 29) hx hb dX2_bitIn_9 (by decide) (fun c => absurd c hc2) (fun _ => ?_)
      refine lv_iload_n hx hb dX2_bitIn_12 rfl (lv_at hl 2 rfl) ?_
      refine lv_bipush (v := 6) hx hb dX2_bitIn_13 (by decide) ?_
      refine lv_ishr hx hb dX2_bitIn_15 ?_
      refine lv_iload_n hx hb dX2_bitIn_16 rfl (lv_at hl 1 rfl) ?_
      by_cases hc3 : (p1 >>> (6 &&& 31)) = p0
      · refine lv_icmp_ne (tgt := 29) hx hb dX2_bitIn_17 (by decide) (fun c => absurd hc3 c) (fun _ => ?_)
        refine lv_lconst (v := 1) hx hb dX2_bitIn_20 (by decide) ?_
        refine lv_iload_n hx hb dX2_bitIn_21 rfl (lv_at hl 2 rfl) ?_
        refine lv_bipush (v := 63) hx hb dX2_bitIn_22 (by decide) ?_
        refine lv_iand hx hb dX2_bitIn_24 ?_
        refine lv_lshl (v := (((1 : Int64) <<< (((p1 &&& 63) : Int32).toInt64 &&& 63)))) hx hb dX2_bitIn_25 rfl ?_
        refine lv_goto (tgt := 30) hx hb dX2_bitIn_26 (by decide) ?_
        have e_sX2_bitIn_r : sX2_bitIn_r homes p0 p1 = (((1 : Int64) <<< (((p1 &&& 63) : Int32).toInt64 &&& 63))) := by unfold sX2_bitIn_r; rw [if_neg hc1, if_neg hc2, if_pos hc3]
        have hP9 : va_P (dC, dI) cls [(h0, .inr (9, [.int homes, .int values, .int width, .ref usesA, .ref givenInA, .ref liveInA, .ref liveA, .ref liveGuestsA, .int guests, .ref chainA, .ref nearA, .ref mateA, .ref degreeA, .ref costA, .ref giversA, .ref giverA, .ref registerA, .ref leftA, .ref orderA]))] s.heap := by exact hP.sub [0] rfl
        have hD9 : va_D A [(h0, .inr (9, [.int homes, .int values, .int width, .ref usesA, .ref givenInA, .ref liveInA, .ref liveA, .ref liveGuestsA, .int guests, .ref chainA, .ref nearA, .ref mateA, .ref degreeA, .ref costA, .ref giversA, .ref giverA, .ref registerA, .ref leftA, .ref orderA]))] := by exact hD.sub [0] (by decide) rfl
        have hK9 : va_K (dC, dI) cls [] s := hK.sub [] rfl
        refine W.widen (k := 0) (n := 0) (Nat.le_of_ble_eq_true rfl) (Nat.le_of_ble_eq_true rfl) ?_
        exact W.lret (v := (((1 : Int64) <<< (((p1 &&& 63) : Int32).toInt64 &&& 63)))) hx hb hr (fun t ht hW => ⟨⟨(((1 : Int64) <<< (((p1 &&& 63) : Int32).toInt64 &&& 63))), (), rfl, e_sX2_bitIn_r.symm, ⟨by rw [ht]; exact hP9, va_K.moved hW.alike hK9, hD9⟩⟩, hS.F ht⟩) hS.2.2 dX2_bitIn_30
      · refine lv_icmp_ne (tgt := 29) hx hb dX2_bitIn_17 (by decide) (fun _ => ?_) (fun c => absurd c hc3)
        refine lv_lconst (v := 0) hx hb dX2_bitIn_29 (by decide) ?_
        have e_sX2_bitIn_r : sX2_bitIn_r homes p0 p1 = 0 := by unfold sX2_bitIn_r; rw [if_neg hc1, if_neg hc2, if_neg hc3]
        have hP9 : va_P (dC, dI) cls [(h0, .inr (9, [.int homes, .int values, .int width, .ref usesA, .ref givenInA, .ref liveInA, .ref liveA, .ref liveGuestsA, .int guests, .ref chainA, .ref nearA, .ref mateA, .ref degreeA, .ref costA, .ref giversA, .ref giverA, .ref registerA, .ref leftA, .ref orderA]))] s.heap := by exact hP.sub [0] rfl
        have hD9 : va_D A [(h0, .inr (9, [.int homes, .int values, .int width, .ref usesA, .ref givenInA, .ref liveInA, .ref liveA, .ref liveGuestsA, .int guests, .ref chainA, .ref nearA, .ref mateA, .ref degreeA, .ref costA, .ref giversA, .ref giverA, .ref registerA, .ref leftA, .ref orderA]))] := by exact hD.sub [0] (by decide) rfl
        have hK9 : va_K (dC, dI) cls [] s := hK.sub [] rfl
        refine W.widen (k := 0) (n := 0) (Nat.le_of_ble_eq_true rfl) (Nat.le_of_ble_eq_true rfl) ?_
        exact W.lret (v := 0) hx hb hr (fun t ht hW => ⟨⟨0, (), rfl, e_sX2_bitIn_r.symm, ⟨by rw [ht]; exact hP9, va_K.moved hW.alike hK9, hD9⟩⟩, hS.F ht⟩) hS.2.2 dX2_bitIn_30
set_option maxHeartbeats 4000000 in
set_option maxRecDepth 100000 in
theorem kX2_isIn {zs : Nat × Nat} (l : Launch) (dC : Nat → ClassId) (dI : Nat → Nat → Nat) (h0 : Nat) (homes : Int32) (values : Int32) (width : Int32) (usesA : Nat) (givenInA : Nat) (liveInA : Nat) (liveA : Nat) (liveGuestsA : Nat) (guests : Int32) (chainA : Nat) (nearA : Nat) (mateA : Nat) (degreeA : Nat) (costA : Nat) (giversA : Nat) (giverA : Nat) (registerA : Nat) (leftA : Nat) (orderA : Nat) (p0A : Nat) (p0C : ClassId) (p0N : Nat) (p0F : Nat → Int64) (p1 : Int32) (p2 : Int32) (sz : Nat) (hq1 : vp_in ((p1 * width) + (p2 >>> (6 &&& 31))) p0N) : Met l yX2_isIn (wz yX2_isIn cX2_isIn 4 (Option.some Jvm.ClassFile.FieldType.boolean)) ({ frames := 1, cells := 0, slots := 0, locals := 22 }) (va_Pc [.ref h0, .ref p0A, .int p1, .int p2] (PRE zs dC dI [(h0, .inr (9, [.int homes, .int values, .int width, .ref usesA, .ref givenInA, .ref liveInA, .ref liveA, .ref liveGuestsA, .int guests, .ref chainA, .ref nearA, .ref mateA, .ref degreeA, .ref costA, .ref giversA, .ref giverA, .ref registerA, .ref leftA, .ref orderA])), (p0A, .inl (p0C, p0N, .inr (.inl p0F)))] [(p0C, .long)] sz)) (va_Qi (fun (r : Int32) (_ : Unit) => r = (sX11_holds_r (p0F (Int32.toNatClampNeg ((p1 * width) + (p2 >>> (6 &&& 31))))) (p2 &&& 63))) (fun _ t => POST dC dI [(h0, .inr (9, [.int homes, .int values, .int width, .ref usesA, .ref givenInA, .ref liveInA, .ref liveA, .ref liveGuestsA, .int guests, .ref chainA, .ref nearA, .ref mateA, .ref degreeA, .ref costA, .ref giversA, .ref giverA, .ref registerA, .ref leftA, .ref orderA])), (p0A, .inl (p0C, p0N, .inr (.inl p0F)))] [(p0C, .long)] (va_A [(h0, .inr (9, [.int homes, .int values, .int width, .ref usesA, .ref givenInA, .ref liveInA, .ref liveA, .ref liveGuestsA, .int guests, .ref chainA, .ref nearA, .ref mateA, .ref degreeA, .ref costA, .ref giversA, .ref giverA, .ref registerA, .ref leftA, .ref orderA])), (p0A, .inl (p0C, p0N, .inr (.inl p0F)))] sz) t) (va_A [(h0, .inr (9, [.int homes, .int values, .int width, .ref usesA, .ref givenInA, .ref liveInA, .ref liveA, .ref liveGuestsA, .int guests, .ref chainA, .ref nearA, .ref mateA, .ref degreeA, .ref costA, .ref giversA, .ref giverA, .ref registerA, .ref leftA, .ref orderA])), (p0A, .inl (p0C, p0N, .inr (.inl p0F)))] sz)) 0 0 (va_A [(h0, .inr (9, [.int homes, .int values, .int width, .ref usesA, .ref givenInA, .ref liveInA, .ref liveA, .ref liveGuestsA, .int guests, .ref chainA, .ref nearA, .ref mateA, .ref degreeA, .ref costA, .ref giversA, .ref giverA, .ref registerA, .ref leftA, .ref orderA])), (p0A, .inl (p0C, p0N, .inr (.inl p0F)))] sz) := by
  refine Met.ofW (cc := cX2_isIn) (maxL := 4) (ret := (Option.some Jvm.ClassFile.FieldType.boolean)) (by decide) rfl ?_
  intro p e s m args below meth c s₁ B hml hv
  obtain ⟨rfl, hsz, hP, hK, hD0, hE⟩ := hv
  have hx := B.exec
  have hb := B.bytes
  have hr := B.returns
  have hts0 := atoms_spec (ws := wz yX2_isIn cX2_isIn 4 (Option.some Jvm.ClassFile.FieldType.boolean)) B.pre
  have hts : ∀ w ∈ gw, w.before _ s = true := fun w h => hts0 w (List.mem_cons_of_mem _ h)
  have hown : s.vm.findClass RX2 = some m.cls := findClass_of_methodNamed B.named
  have hlocks := B.notSynchronized
  subst hsz
  have hD := hD0.self (sz := s.heap.size)
  generalize hAe : va_A [(h0, .inr (9, [.int homes, .int values, .int width, .ref usesA, .ref givenInA, .ref liveInA, .ref liveA, .ref liveGuestsA, .int guests, .ref chainA, .ref nearA, .ref mateA, .ref degreeA, .ref costA, .ref giversA, .ref giverA, .ref registerA, .ref leftA, .ref orderA])), (p0A, .inl (p0C, p0N, .inr (.inl p0F)))] s.heap.size = A at hD hE ⊢
  have hA : ∀ q : Nat, s.heap.size ≤ q → A q := fun q h => by rw [← hAe]; exact Or.inr h
  have hS : va_S A s.heap s.heap [] := va_S.rf
  have hP : va_P (dC, dI) cls [(h0, .inr (9, [.int homes, .int values, .int width, .ref usesA, .ref givenInA, .ref liveInA, .ref liveA, .ref liveGuestsA, .int guests, .ref chainA, .ref nearA, .ref mateA, .ref degreeA, .ref costA, .ref giversA, .ref giverA, .ref registerA, .ref leftA, .ref orderA])), (p0A, .inl (p0C, p0N, .inr (.inl p0F)))] s.heap := hP
  have hl := lv_entry ([.ref h0, .ref p0A, .int p1, .int p2]) (n := 4) (Nat.le_of_ble_eq_true rfl)
  rw [lg_entry_eq]
  generalize (lg_sl ([.ref h0, .ref p0A, .int p1, .int p2]) ++ List.replicate (4 - (lg_sl ([.ref h0, .ref p0A, .int p1, .int p2])).length) Slot.unset).toArray = ls at hl ⊢
  have hl : lv_has ls 4 [(0, .ref h0), (1, .ref p0A), (2, .int p1), (3, .int p2)] := hl
  refine lv_aload_n hx hb dX2_isIn_0 rfl (lv_at hl 1 rfl) ?_
  refine lv_iload_n hx hb dX2_isIn_1 rfl (lv_at hl 2 rfl) ?_
  refine lv_aload_n hx hb dX2_isIn_2 rfl (lv_at hl 0 rfl) ?_
  refine va_get (D := (dC, dI)) (ci := 9) (v := .int width) (C := RX2) (T := TX2) (N := 19) hx hb hts i_X2 hown hK hP 0 rfl rfl 2 (by decide) (hts _ qw377) (fun _ h9 => h9) rfl dX2_isIn_3 ?_
  refine lv_imul hx hb dX2_isIn_6 ?_
  refine lv_iload_n hx hb dX2_isIn_7 rfl (lv_at hl 3 rfl) ?_
  refine lv_bipush (v := 6) hx hb dX2_isIn_8 (by decide) ?_
  refine lv_ishr hx hb dX2_isIn_10 ?_
  refine lv_iadd hx hb dX2_isIn_11 ?_
  refine va_lald hx hb hK hP 1 0 rfl rfl (hq1) dX2_isIn_12 ?_
  refine lv_iload_n hx hb dX2_isIn_13 rfl (lv_at hl 3 rfl) ?_
  refine lv_bipush (v := 63) hx hb dX2_isIn_14 (by decide) ?_
  refine lv_iand hx hb dX2_isIn_16 ?_
  have hPc := hP.sub (ws' := []) [] rfl
  have hDc := hD.sub (ws' := []) [] (by decide) rfl
  have hKc := hK.sub (tys' := []) [] rfl
  have hFc := va_free (wc := []) hD hS hA [] rfl
  refine va_calli (va_runSN (As := [.long (p0F (Int32.toNatClampNeg ((p1 * width) + (p2 >>> (6 &&& 31))))), .int (p2 &&& 63)]) (rest := []) ⟨hx, hb, hml, hown, hts⟩ (kX11_holds l dC dI (p0 := (p0F (Int32.toNatClampNeg ((p1 * width) + (p2 >>> (6 &&& 31)))))) (p1 := (p2 &&& 63)) (sz := _)) ⟨(va_cnB 2 hts (gi_z qw245) rfl rfl rfl (hE.nw (List.mem_append_right _ (tbl_8 (i := 223) rfl)) rfl) (hts _ qw120) (by decide +kernel) ⟨Nat.le_of_ble_eq_true rfl, Nat.le_of_ble_eq_true rfl⟩), (hts _ qw246), trivial⟩ ⟨PRE.blind, PRE.of hE hS hFc hPc hKc hDc⟩ rfl rfl hl.1 rfl (lv_room (Nat.le_of_ble_eq_true rfl)) dX2_isIn_17 ⟨Nat.le_of_ble_eq_true rfl, Nat.le_of_ble_eq_true rfl⟩) hS (fun q _ h => hFc q h) hFc (fun r1 u t H locs ht hvm hw hB hz1 hk1 hS => ?_)
  obtain ⟨hP, hD, hK⟩ := JOIN (wr := [(h0, .inr (9, [.int homes, .int values, .int width, .ref usesA, .ref givenInA, .ref liveInA, .ref liveA, .ref liveGuestsA, .int guests, .ref chainA, .ref nearA, .ref mateA, .ref degreeA, .ref costA, .ref giversA, .ref giverA, .ref registerA, .ref leftA, .ref orderA])), (p0A, .inl (p0C, p0N, .inr (.inl p0F)))]) hP hD hK [] [0, 1] [0] rfl rfl (by decide) (by decide) rfl hk1 hFc ht hvm hB
  have hP : va_P (dC, dI) cls [(h0, .inr (9, [.int homes, .int values, .int width, .ref usesA, .ref givenInA, .ref liveInA, .ref liveA, .ref liveGuestsA, .int guests, .ref chainA, .ref nearA, .ref mateA, .ref degreeA, .ref costA, .ref giversA, .ref giverA, .ref registerA, .ref leftA, .ref orderA])), (p0A, .inl (p0C, p0N, .inr (.inl p0F)))] H := hP
  have hD : va_D A [(h0, .inr (9, [.int homes, .int values, .int width, .ref usesA, .ref givenInA, .ref liveInA, .ref liveA, .ref liveGuestsA, .int guests, .ref chainA, .ref nearA, .ref mateA, .ref degreeA, .ref costA, .ref giversA, .ref giverA, .ref registerA, .ref leftA, .ref orderA])), (p0A, .inl (p0C, p0N, .inr (.inl p0F)))] := hD
  have hK : va_K (dC, dI) cls [(p0C, .long)] s := hK
  refine W.widen (k := 0) (n := 0) (Nat.le_of_ble_eq_true rfl) (Nat.le_of_ble_eq_true rfl) ?_
  obtain rfl : r1 = (sX11_holds_r (p0F (Int32.toNatClampNeg ((p1 * width) + (p2 >>> (6 &&& 31))))) (p2 &&& 63)) := hw
  have hP9 : va_P (dC, dI) cls [(h0, .inr (9, [.int homes, .int values, .int width, .ref usesA, .ref givenInA, .ref liveInA, .ref liveA, .ref liveGuestsA, .int guests, .ref chainA, .ref nearA, .ref mateA, .ref degreeA, .ref costA, .ref giversA, .ref giverA, .ref registerA, .ref leftA, .ref orderA])), (p0A, .inl (p0C, p0N, .inr (.inl p0F)))] H := by exact hP.sub [0, 1] rfl
  have hD9 : va_D A [(h0, .inr (9, [.int homes, .int values, .int width, .ref usesA, .ref givenInA, .ref liveInA, .ref liveA, .ref liveGuestsA, .int guests, .ref chainA, .ref nearA, .ref mateA, .ref degreeA, .ref costA, .ref giversA, .ref giverA, .ref registerA, .ref leftA, .ref orderA])), (p0A, .inl (p0C, p0N, .inr (.inl p0F)))] := by exact hD.sub [0, 1] (by decide) rfl
  have hK9 : va_K (dC, dI) cls [(p0C, .long)] s := hK.sub [0] rfl
  refine W.widen (k := 0) (n := 0) (Nat.le_of_ble_eq_true rfl) (Nat.le_of_ble_eq_true rfl) ?_
  exact W.zret (v := (sX11_holds_r (p0F (Int32.toNatClampNeg ((p1 * width) + (p2 >>> (6 &&& 31))))) (p2 &&& 63))) hx hb hr (pk_nc _) (fun t ht hW => ⟨⟨(sX11_holds_r (p0F (Int32.toNatClampNeg ((p1 * width) + (p2 >>> (6 &&& 31))))) (p2 &&& 63)), (), rfl, rfl, ⟨by rw [ht]; exact hP9, va_K.moved hW.alike hK9, hD9⟩⟩, hS.F ht⟩) hS.2.2 dX2_isIn_20
def sX2_lowerLeft_1 (leftF : Nat → Int32) (p0 : Int32) : Nat → Int32 := (if (leftF (Int32.toNatClampNeg p0)) = (-1) then leftF else (upd leftF (Int32.toNatClampNeg p0) ((leftF (Int32.toNatClampNeg p0)) - 1)))
set_option maxHeartbeats 4000000 in
set_option maxRecDepth 100000 in
theorem kX2_lowerLeft {zs : Nat × Nat} (l : Launch) (dC : Nat → ClassId) (dI : Nat → Nat → Nat) (h0 : Nat) (homes : Int32) (values : Int32) (width : Int32) (usesA : Nat) (givenInA : Nat) (liveInA : Nat) (liveA : Nat) (liveGuestsA : Nat) (guests : Int32) (chainA : Nat) (nearA : Nat) (mateA : Nat) (degreeA : Nat) (costA : Nat) (giversA : Nat) (giverA : Nat) (registerA : Nat) (leftA : Nat) (leftN : Nat) (leftC : ClassId) (leftF : Nat → Int32) (orderA : Nat) (p0 : Int32) (sz : Nat) (hq1 : vp_in p0 leftN) : Met l yX2_lowerLeft (wz yX2_lowerLeft cX2_lowerLeft 2 (Option.none : Option Jvm.ClassFile.FieldType)) ({ frames := 0, cells := 0, slots := 0, locals := 0 }) (va_Pc [.ref h0, .int p0] (PRE zs dC dI [(h0, .inr (9, [.int homes, .int values, .int width, .ref usesA, .ref givenInA, .ref liveInA, .ref liveA, .ref liveGuestsA, .int guests, .ref chainA, .ref nearA, .ref mateA, .ref degreeA, .ref costA, .ref giversA, .ref giverA, .ref registerA, .ref leftA, .ref orderA])), (leftA, .inl (leftC, leftN, .inl leftF))] [(leftC, .int)] sz)) (va_Qv (fun (_ : Unit) => True) (fun _ t => POST dC dI [(h0, .inr (9, [.int homes, .int values, .int width, .ref usesA, .ref givenInA, .ref liveInA, .ref liveA, .ref liveGuestsA, .int guests, .ref chainA, .ref nearA, .ref mateA, .ref degreeA, .ref costA, .ref giversA, .ref giverA, .ref registerA, .ref leftA, .ref orderA])), (leftA, .inl (leftC, leftN, .inl (sX2_lowerLeft_1 leftF p0)))] [(leftC, .int)] (va_A [(h0, .inr (9, [.int homes, .int values, .int width, .ref usesA, .ref givenInA, .ref liveInA, .ref liveA, .ref liveGuestsA, .int guests, .ref chainA, .ref nearA, .ref mateA, .ref degreeA, .ref costA, .ref giversA, .ref giverA, .ref registerA, .ref leftA, .ref orderA])), (leftA, .inl (leftC, leftN, .inl leftF))] sz) t) (va_A [(h0, .inr (9, [.int homes, .int values, .int width, .ref usesA, .ref givenInA, .ref liveInA, .ref liveA, .ref liveGuestsA, .int guests, .ref chainA, .ref nearA, .ref mateA, .ref degreeA, .ref costA, .ref giversA, .ref giverA, .ref registerA, .ref leftA, .ref orderA])), (leftA, .inl (leftC, leftN, .inl leftF))] sz)) 0 0 (va_A [(h0, .inr (9, [.int homes, .int values, .int width, .ref usesA, .ref givenInA, .ref liveInA, .ref liveA, .ref liveGuestsA, .int guests, .ref chainA, .ref nearA, .ref mateA, .ref degreeA, .ref costA, .ref giversA, .ref giverA, .ref registerA, .ref leftA, .ref orderA])), (leftA, .inl (leftC, leftN, .inl leftF))] sz) := by
  refine Met.ofW (cc := cX2_lowerLeft) (maxL := 2) (ret := (Option.none : Option Jvm.ClassFile.FieldType)) (by decide) rfl ?_
  intro p e s m args below meth c s₁ B hml hv
  obtain ⟨rfl, hsz, hP, hK, hD0, hE⟩ := hv
  have hx := B.exec
  have hb := B.bytes
  have hr := B.returns
  have hts0 := atoms_spec (ws := wz yX2_lowerLeft cX2_lowerLeft 2 (Option.none : Option Jvm.ClassFile.FieldType)) B.pre
  have hts : ∀ w ∈ gw, w.before _ s = true := fun w h => hts0 w (List.mem_cons_of_mem _ h)
  have hown : s.vm.findClass RX2 = some m.cls := findClass_of_methodNamed B.named
  have hlocks := B.notSynchronized
  subst hsz
  have hD := hD0.self (sz := s.heap.size)
  generalize hAe : va_A [(h0, .inr (9, [.int homes, .int values, .int width, .ref usesA, .ref givenInA, .ref liveInA, .ref liveA, .ref liveGuestsA, .int guests, .ref chainA, .ref nearA, .ref mateA, .ref degreeA, .ref costA, .ref giversA, .ref giverA, .ref registerA, .ref leftA, .ref orderA])), (leftA, .inl (leftC, leftN, .inl leftF))] s.heap.size = A at hD hE ⊢
  have hA : ∀ q : Nat, s.heap.size ≤ q → A q := fun q h => by rw [← hAe]; exact Or.inr h
  have hS : va_S A s.heap s.heap [] := va_S.rf
  have hP : va_P (dC, dI) cls [(h0, .inr (9, [.int homes, .int values, .int width, .ref usesA, .ref givenInA, .ref liveInA, .ref liveA, .ref liveGuestsA, .int guests, .ref chainA, .ref nearA, .ref mateA, .ref degreeA, .ref costA, .ref giversA, .ref giverA, .ref registerA, .ref leftA, .ref orderA])), (leftA, .inl (leftC, leftN, .inl leftF))] s.heap := hP
  have hl := lv_entry ([.ref h0, .int p0]) (n := 2) (Nat.le_of_ble_eq_true rfl)
  rw [lg_entry_eq]
  generalize (lg_sl ([.ref h0, .int p0]) ++ List.replicate (2 - (lg_sl ([.ref h0, .int p0])).length) Slot.unset).toArray = ls at hl ⊢
  have hl : lv_has ls 2 [(0, .ref h0), (1, .int p0)] := hl
  refine lv_aload_n hx hb dX2_lowerLeft_0 rfl (lv_at hl 0 rfl) ?_
  refine va_get (D := (dC, dI)) (ci := 9) (v := .ref leftA) (C := RX2) (T := TX2) (N := 19) hx hb hts i_X2 hown hK hP 0 rfl rfl 17 (by decide) (hts _ qw108) (fun _ h9 => h9) rfl dX2_lowerLeft_1 ?_
  refine lv_iload_n hx hb dX2_lowerLeft_4 rfl (lv_at hl 1 rfl) ?_
  refine va_iald hx hb hK hP 1 0 rfl rfl (hq1) dX2_lowerLeft_5 ?_
  refine lv_iconst (v := (-1)) hx hb dX2_lowerLeft_6 (by decide) ?_
  by_cases hc1 : (leftF (Int32.toNatClampNeg p0)) = (-1)
  · refine lv_icmp_eq (tgt := 20) hx hb dX2_lowerLeft_7 (by decide) (fun _ => ?_) (fun c => absurd hc1 c)
    have e_sX2_lowerLeft_1 : sX2_lowerLeft_1 leftF p0 = leftF := by unfold sX2_lowerLeft_1; rw [if_pos hc1]
    have hP9 : va_P (dC, dI) cls [(h0, .inr (9, [.int homes, .int values, .int width, .ref usesA, .ref givenInA, .ref liveInA, .ref liveA, .ref liveGuestsA, .int guests, .ref chainA, .ref nearA, .ref mateA, .ref degreeA, .ref costA, .ref giversA, .ref giverA, .ref registerA, .ref leftA, .ref orderA])), (leftA, .inl (leftC, leftN, .inl (sX2_lowerLeft_1 leftF p0)))] s.heap := by rw [e_sX2_lowerLeft_1]; exact hP.sub [0, 1] rfl
    have hD9 : va_D A [(h0, .inr (9, [.int homes, .int values, .int width, .ref usesA, .ref givenInA, .ref liveInA, .ref liveA, .ref liveGuestsA, .int guests, .ref chainA, .ref nearA, .ref mateA, .ref degreeA, .ref costA, .ref giversA, .ref giverA, .ref registerA, .ref leftA, .ref orderA])), (leftA, .inl (leftC, leftN, .inl (sX2_lowerLeft_1 leftF p0)))] := by rw [e_sX2_lowerLeft_1]; exact hD.sub [0, 1] (by decide) rfl
    have hK9 : va_K (dC, dI) cls [(leftC, .int)] s := hK.sub [0] rfl
    refine W.widen (k := 0) (n := 0) (Nat.le_of_ble_eq_true rfl) (Nat.le_of_ble_eq_true rfl) ?_
    exact W.vret hx hb hr (fun t ht hW => ⟨⟨(), rfl, trivial, ⟨by rw [ht]; exact hP9, va_K.moved hW.alike hK9, hD9⟩⟩, hS.F ht⟩) hS.2.2 dX2_lowerLeft_20
  · refine lv_icmp_eq (tgt := 20) hx hb dX2_lowerLeft_7 (by decide) (fun c => absurd c hc1) (fun _ => ?_)
    refine lv_aload_n hx hb dX2_lowerLeft_10 rfl (lv_at hl 0 rfl) ?_
    refine va_get (D := (dC, dI)) (ci := 9) (v := .ref leftA) (C := RX2) (T := TX2) (N := 19) hx hb hts i_X2 hown hK hP 0 rfl rfl 17 (by decide) (hts _ qw108) (fun _ h9 => h9) rfl dX2_lowerLeft_11 ?_
    refine lv_iload_n hx hb dX2_lowerLeft_14 rfl (lv_at hl 1 rfl) ?_
    refine lv_dup2_11 hx hb dX2_lowerLeft_15 rfl rfl ?_
    refine va_iald hx hb hK hP 1 0 rfl rfl (hq1) dX2_lowerLeft_16 ?_
    refine lv_iconst (v := 1) hx hb dX2_lowerLeft_17 (by decide) ?_
    refine lv_isub hx hb dX2_lowerLeft_18 ?_
    refine va_iast hx hb hK hP hD hS 1 0 rfl rfl (hq1) dX2_lowerLeft_19 (fun H locs hP hD hS => ?_)
    have hP : va_P (dC, dI) cls [(h0, .inr (9, [.int homes, .int values, .int width, .ref usesA, .ref givenInA, .ref liveInA, .ref liveA, .ref liveGuestsA, .int guests, .ref chainA, .ref nearA, .ref mateA, .ref degreeA, .ref costA, .ref giversA, .ref giverA, .ref registerA, .ref leftA, .ref orderA])), (leftA, .inl (leftC, leftN, .inl (upd leftF (Int32.toNatClampNeg p0) ((leftF (Int32.toNatClampNeg p0)) - 1))))] H := hP
    have hD : va_D A [(h0, .inr (9, [.int homes, .int values, .int width, .ref usesA, .ref givenInA, .ref liveInA, .ref liveA, .ref liveGuestsA, .int guests, .ref chainA, .ref nearA, .ref mateA, .ref degreeA, .ref costA, .ref giversA, .ref giverA, .ref registerA, .ref leftA, .ref orderA])), (leftA, .inl (leftC, leftN, .inl (upd leftF (Int32.toNatClampNeg p0) ((leftF (Int32.toNatClampNeg p0)) - 1))))] := hD
    have e_sX2_lowerLeft_1 : sX2_lowerLeft_1 leftF p0 = (upd leftF (Int32.toNatClampNeg p0) ((leftF (Int32.toNatClampNeg p0)) - 1)) := by unfold sX2_lowerLeft_1; rw [if_neg hc1]
    have hP9 : va_P (dC, dI) cls [(h0, .inr (9, [.int homes, .int values, .int width, .ref usesA, .ref givenInA, .ref liveInA, .ref liveA, .ref liveGuestsA, .int guests, .ref chainA, .ref nearA, .ref mateA, .ref degreeA, .ref costA, .ref giversA, .ref giverA, .ref registerA, .ref leftA, .ref orderA])), (leftA, .inl (leftC, leftN, .inl (sX2_lowerLeft_1 leftF p0)))] H := by rw [e_sX2_lowerLeft_1]; exact hP.sub [0, 1] rfl
    have hD9 : va_D A [(h0, .inr (9, [.int homes, .int values, .int width, .ref usesA, .ref givenInA, .ref liveInA, .ref liveA, .ref liveGuestsA, .int guests, .ref chainA, .ref nearA, .ref mateA, .ref degreeA, .ref costA, .ref giversA, .ref giverA, .ref registerA, .ref leftA, .ref orderA])), (leftA, .inl (leftC, leftN, .inl (sX2_lowerLeft_1 leftF p0)))] := by rw [e_sX2_lowerLeft_1]; exact hD.sub [0, 1] (by decide) rfl
    have hK9 : va_K (dC, dI) cls [(leftC, .int)] s := hK.sub [0] rfl
    refine W.widen (k := 0) (n := 0) (Nat.le_of_ble_eq_true rfl) (Nat.le_of_ble_eq_true rfl) ?_
    exact W.vret hx hb hr (fun t ht hW => ⟨⟨(), rfl, trivial, ⟨by rw [ht]; exact hP9, va_K.moved hW.alike hK9, hD9⟩⟩, hS.F ht⟩) hS.2.2 dX2_lowerLeft_20
set_option maxHeartbeats 4000000 in
set_option maxRecDepth 100000 in
theorem kX2_isIn_n142 {zs : Nat × Nat} (l : Launch) (dC : Nat → ClassId) (dI : Nat → Nat → Nat) (a0 : Nat) (a1 : Nat) (i2 : Int32) (i3 : Int32) (i4 : Int32) (i5 : Int32) (i6 : Int32) (a7 : Nat) (a8 : Nat) (a9 : Nat) (a10 : Nat) (i11 : Int32) (a12 : Nat) (a13 : Nat) (a14 : Nat) (a15 : Nat) (a16 : Nat) (a17 : Nat) (a18 : Nat) (a19 : Nat) (a20 : Nat) (a21 : Nat) (k24 : ClassId) (G25 : Nat → Int64) (sz : Nat) (hf0 : ¬ i4 ≤ i3) (hq1 : vp_in ((i2 * i6) + (i3 >>> (6 &&& 31))) givenInN) : Met l yX2_isIn (wz yX2_isIn cX2_isIn 4 (Option.some Jvm.ClassFile.FieldType.boolean)) ({ frames := 1, cells := 0, slots := 0, locals := 22 }) (va_Pc [.ref a0, .ref a1, .int i2, .int i3] (PRE zs dC dI [(a0, .inr (9, [.int i4, .int i5, .int i6, .ref a7, .ref a1, .ref a8, .ref a9, .ref a10, .int i11, .ref a12, .ref a13, .ref a14, .ref a15, .ref a16, .ref a17, .ref a18, .ref a19, .ref a20, .ref a21])), (a1, .inl (k24, givenInN, .inr (.inl G25)))] [(k24, .long)] sz)) (va_Qi (fun (r : Int32) (_ : Unit) => r = (sX11_holds_r (G25 (Int32.toNatClampNeg ((i2 * i6) + (i3 >>> (6 &&& 31))))) (i3 &&& 63))) (fun _ t => POST dC dI [(a0, .inr (9, [.int i4, .int i5, .int i6, .ref a7, .ref a1, .ref a8, .ref a9, .ref a10, .int i11, .ref a12, .ref a13, .ref a14, .ref a15, .ref a16, .ref a17, .ref a18, .ref a19, .ref a20, .ref a21])), (a1, .inl (k24, givenInN, .inr (.inl G25)))] [(k24, .long)] (va_A [(a0, .inr (9, [.int i4, .int i5, .int i6, .ref a7, .ref a1, .ref a8, .ref a9, .ref a10, .int i11, .ref a12, .ref a13, .ref a14, .ref a15, .ref a16, .ref a17, .ref a18, .ref a19, .ref a20, .ref a21])), (a1, .inl (k24, givenInN, .inr (.inl G25)))] sz) t) (va_A [(a0, .inr (9, [.int i4, .int i5, .int i6, .ref a7, .ref a1, .ref a8, .ref a9, .ref a10, .int i11, .ref a12, .ref a13, .ref a14, .ref a15, .ref a16, .ref a17, .ref a18, .ref a19, .ref a20, .ref a21])), (a1, .inl (k24, givenInN, .inr (.inl G25)))] sz)) 0 0 (va_A [(a0, .inr (9, [.int i4, .int i5, .int i6, .ref a7, .ref a1, .ref a8, .ref a9, .ref a10, .int i11, .ref a12, .ref a13, .ref a14, .ref a15, .ref a16, .ref a17, .ref a18, .ref a19, .ref a20, .ref a21])), (a1, .inl (k24, givenInN, .inr (.inl G25)))] sz) := by
  refine Met.ofW (cc := cX2_isIn) (maxL := 4) (ret := (Option.some Jvm.ClassFile.FieldType.boolean)) (by decide) rfl ?_
  intro p e s m args below meth c s₁ B hml hv
  obtain ⟨rfl, hsz, hP, hK, hD0, hE⟩ := hv
  have hx := B.exec
  have hb := B.bytes
  have hr := B.returns
  have hts0 := atoms_spec (ws := wz yX2_isIn cX2_isIn 4 (Option.some Jvm.ClassFile.FieldType.boolean)) B.pre
  have hts : ∀ w ∈ gw, w.before _ s = true := fun w h => hts0 w (List.mem_cons_of_mem _ h)
  have hown : s.vm.findClass RX2 = some m.cls := findClass_of_methodNamed B.named
  have hlocks := B.notSynchronized
  subst hsz
  have hD := hD0.self (sz := s.heap.size)
  generalize hAe : va_A [(a0, .inr (9, [.int i4, .int i5, .int i6, .ref a7, .ref a1, .ref a8, .ref a9, .ref a10, .int i11, .ref a12, .ref a13, .ref a14, .ref a15, .ref a16, .ref a17, .ref a18, .ref a19, .ref a20, .ref a21])), (a1, .inl (k24, givenInN, .inr (.inl G25)))] s.heap.size = A at hD hE ⊢
  have hA : ∀ q : Nat, s.heap.size ≤ q → A q := fun q h => by rw [← hAe]; exact Or.inr h
  have hS : va_S A s.heap s.heap [] := va_S.rf
  have hP : va_P (dC, dI) cls [(a0, .inr (9, [.int i4, .int i5, .int i6, .ref a7, .ref a1, .ref a8, .ref a9, .ref a10, .int i11, .ref a12, .ref a13, .ref a14, .ref a15, .ref a16, .ref a17, .ref a18, .ref a19, .ref a20, .ref a21])), (a1, .inl (k24, givenInN, .inr (.inl G25)))] s.heap := hP
  have hl := lv_entry ([.ref a0, .ref a1, .int i2, .int i3]) (n := 4) (Nat.le_of_ble_eq_true rfl)
  rw [lg_entry_eq]
  generalize (lg_sl ([.ref a0, .ref a1, .int i2, .int i3]) ++ List.replicate (4 - (lg_sl ([.ref a0, .ref a1, .int i2, .int i3])).length) Slot.unset).toArray = ls at hl ⊢
  have hl : lv_has ls 4 [(0, .ref a0), (1, .ref a1), (2, .int i2), (3, .int i3)] := hl
  refine lv_aload_n hx hb dX2_isIn_0 rfl (lv_at hl 1 rfl) ?_
  refine lv_iload_n hx hb dX2_isIn_1 rfl (lv_at hl 2 rfl) ?_
  refine lv_aload_n hx hb dX2_isIn_2 rfl (lv_at hl 0 rfl) ?_
  refine va_get (D := (dC, dI)) (ci := 9) (v := .int i6) (C := RX2) (T := TX2) (N := 19) hx hb hts i_X2 hown hK hP 0 rfl rfl 2 (by decide) (hts _ qw377) (fun _ h9 => h9) rfl dX2_isIn_3 ?_
  refine lv_imul hx hb dX2_isIn_6 ?_
  refine lv_iload_n hx hb dX2_isIn_7 rfl (lv_at hl 3 rfl) ?_
  refine lv_bipush (v := 6) hx hb dX2_isIn_8 (by decide) ?_
  refine lv_ishr hx hb dX2_isIn_10 ?_
  refine lv_iadd hx hb dX2_isIn_11 ?_
  refine va_lald hx hb hK hP 1 0 rfl rfl (hq1) dX2_isIn_12 ?_
  refine lv_iload_n hx hb dX2_isIn_13 rfl (lv_at hl 3 rfl) ?_
  refine lv_bipush (v := 63) hx hb dX2_isIn_14 (by decide) ?_
  refine lv_iand hx hb dX2_isIn_16 ?_
  have hPc := hP.sub (ws' := []) [] rfl
  have hDc := hD.sub (ws' := []) [] (by decide) rfl
  have hKc := hK.sub (tys' := []) [] rfl
  have hFc := va_free (wc := []) hD hS hA [] rfl
  refine va_calli (va_runSN (As := [.long (G25 (Int32.toNatClampNeg ((i2 * i6) + (i3 >>> (6 &&& 31))))), .int (i3 &&& 63)]) (rest := []) ⟨hx, hb, hml, hown, hts⟩ (kX11_holds l dC dI (p0 := (G25 (Int32.toNatClampNeg ((i2 * i6) + (i3 >>> (6 &&& 31)))))) (p1 := (i3 &&& 63)) (sz := _)) ⟨(va_cnB 2 hts (gi_z qw245) rfl rfl rfl (hE.nw (List.mem_append_right _ (tbl_8 (i := 223) rfl)) rfl) (hts _ qw120) (by decide +kernel) ⟨Nat.le_of_ble_eq_true rfl, Nat.le_of_ble_eq_true rfl⟩), (hts _ qw246), trivial⟩ ⟨PRE.blind, PRE.of hE hS hFc hPc hKc hDc⟩ rfl rfl hl.1 rfl (lv_room (Nat.le_of_ble_eq_true rfl)) dX2_isIn_17 ⟨Nat.le_of_ble_eq_true rfl, Nat.le_of_ble_eq_true rfl⟩) hS (fun q _ h => hFc q h) hFc (fun r1 u t H locs ht hvm hw hB hz1 hk1 hS => ?_)
  obtain ⟨hP, hD, hK⟩ := JOIN (wr := [(a0, .inr (9, [.int i4, .int i5, .int i6, .ref a7, .ref a1, .ref a8, .ref a9, .ref a10, .int i11, .ref a12, .ref a13, .ref a14, .ref a15, .ref a16, .ref a17, .ref a18, .ref a19, .ref a20, .ref a21])), (a1, .inl (k24, givenInN, .inr (.inl G25)))]) hP hD hK [] [0, 1] [0] rfl rfl (by decide) (by decide) rfl hk1 hFc ht hvm hB
  have hP : va_P (dC, dI) cls [(a0, .inr (9, [.int i4, .int i5, .int i6, .ref a7, .ref a1, .ref a8, .ref a9, .ref a10, .int i11, .ref a12, .ref a13, .ref a14, .ref a15, .ref a16, .ref a17, .ref a18, .ref a19, .ref a20, .ref a21])), (a1, .inl (k24, givenInN, .inr (.inl G25)))] H := hP
  have hD : va_D A [(a0, .inr (9, [.int i4, .int i5, .int i6, .ref a7, .ref a1, .ref a8, .ref a9, .ref a10, .int i11, .ref a12, .ref a13, .ref a14, .ref a15, .ref a16, .ref a17, .ref a18, .ref a19, .ref a20, .ref a21])), (a1, .inl (k24, givenInN, .inr (.inl G25)))] := hD
  have hK : va_K (dC, dI) cls [(k24, .long)] s := hK
  refine W.widen (k := 0) (n := 0) (Nat.le_of_ble_eq_true rfl) (Nat.le_of_ble_eq_true rfl) ?_
  obtain rfl : r1 = (sX11_holds_r (G25 (Int32.toNatClampNeg ((i2 * i6) + (i3 >>> (6 &&& 31))))) (i3 &&& 63)) := hw
  have hP9 : va_P (dC, dI) cls [(a0, .inr (9, [.int i4, .int i5, .int i6, .ref a7, .ref a1, .ref a8, .ref a9, .ref a10, .int i11, .ref a12, .ref a13, .ref a14, .ref a15, .ref a16, .ref a17, .ref a18, .ref a19, .ref a20, .ref a21])), (a1, .inl (k24, givenInN, .inr (.inl G25)))] H := by exact hP.sub [0, 1] rfl
  have hD9 : va_D A [(a0, .inr (9, [.int i4, .int i5, .int i6, .ref a7, .ref a1, .ref a8, .ref a9, .ref a10, .int i11, .ref a12, .ref a13, .ref a14, .ref a15, .ref a16, .ref a17, .ref a18, .ref a19, .ref a20, .ref a21])), (a1, .inl (k24, givenInN, .inr (.inl G25)))] := by exact hD.sub [0, 1] (by decide) rfl
  have hK9 : va_K (dC, dI) cls [(k24, .long)] s := hK.sub [0] rfl
  refine W.widen (k := 0) (n := 0) (Nat.le_of_ble_eq_true rfl) (Nat.le_of_ble_eq_true rfl) ?_
  exact W.zret (v := (sX11_holds_r (G25 (Int32.toNatClampNeg ((i2 * i6) + (i3 >>> (6 &&& 31))))) (i3 &&& 63))) hx hb hr (pk_nc _) (fun t ht hW => ⟨⟨(sX11_holds_r (G25 (Int32.toNatClampNeg ((i2 * i6) + (i3 >>> (6 &&& 31))))) (i3 &&& 63)), (), rfl, rfl, ⟨by rw [ht]; exact hP9, va_K.moved hW.alike hK9, hD9⟩⟩, hS.F ht⟩) hS.2.2 dX2_isIn_20
set_option maxHeartbeats 4000000 in
set_option maxRecDepth 100000 in
theorem kX2_put_n143 {zs : Nat × Nat} (l : Launch) (dC : Nat → ClassId) (dI : Nat → Nat → Nat) (a0 : Nat) (a1 : Nat) (i2 : Int32) (i3 : Int32) (k4 : ClassId) (G5 : Nat → Int64) (a6 : Nat) (a9 : Nat) (a12 : Nat) (a15 : Nat) (a18 : Nat) (a21 : Nat) (a24 : Nat) (a27 : Nat) (a30 : Nat) (a33 : Nat) (a36 : Nat) (a39 : Nat) (a42 : Nat) (i45 : Int32) (i46 : Int32) (i47 : Int32) (a48 : Nat) (i49 : Int32) (sz : Nat) (hf0 : ¬ i45 ≤ i3) (hq1 : vp_in ((i2 * i47) + (i3 >>> (6 &&& 31))) usesN) : Met l yX2_put (wz yX2_put cX2_put 4 (Option.none : Option Jvm.ClassFile.FieldType)) ({ frames := 0, cells := 0, slots := 0, locals := 0 }) (va_Pc [.ref a0, .ref a1, .int i2, .int i3] (PRE zs dC dI [(a1, .inl (k4, usesN, .inr (.inl G5))), (a0, .inr (9, [.int i45, .int i46, .int i47, .ref a1, .ref a48, .ref a6, .ref a9, .ref a12, .int i49, .ref a15, .ref a18, .ref a21, .ref a24, .ref a27, .ref a30, .ref a33, .ref a36, .ref a39, .ref a42]))] [(k4, .long)] sz)) (va_Qv (fun (_ : Unit) => True) (fun _ t => POST dC dI [(a1, .inl (k4, usesN, .inr (.inl (vp_updL G5 (Int32.toNatClampNeg ((i2 * i47) + (i3 >>> (6 &&& 31)))) ((G5 (Int32.toNatClampNeg ((i2 * i47) + (i3 >>> (6 &&& 31))))) ||| (((1 : Int64) <<< (((i3 &&& 63) : Int32).toInt64 &&& 63)))))))), (a0, .inr (9, [.int i45, .int i46, .int i47, .ref a1, .ref a48, .ref a6, .ref a9, .ref a12, .int i49, .ref a15, .ref a18, .ref a21, .ref a24, .ref a27, .ref a30, .ref a33, .ref a36, .ref a39, .ref a42]))] [(k4, .long)] (va_A [(a1, .inl (k4, usesN, .inr (.inl G5))), (a0, .inr (9, [.int i45, .int i46, .int i47, .ref a1, .ref a48, .ref a6, .ref a9, .ref a12, .int i49, .ref a15, .ref a18, .ref a21, .ref a24, .ref a27, .ref a30, .ref a33, .ref a36, .ref a39, .ref a42]))] sz) t) (va_A [(a1, .inl (k4, usesN, .inr (.inl G5))), (a0, .inr (9, [.int i45, .int i46, .int i47, .ref a1, .ref a48, .ref a6, .ref a9, .ref a12, .int i49, .ref a15, .ref a18, .ref a21, .ref a24, .ref a27, .ref a30, .ref a33, .ref a36, .ref a39, .ref a42]))] sz)) 0 0 (va_A [(a1, .inl (k4, usesN, .inr (.inl G5))), (a0, .inr (9, [.int i45, .int i46, .int i47, .ref a1, .ref a48, .ref a6, .ref a9, .ref a12, .int i49, .ref a15, .ref a18, .ref a21, .ref a24, .ref a27, .ref a30, .ref a33, .ref a36, .ref a39, .ref a42]))] sz) := by
  refine Met.ofW (cc := cX2_put) (maxL := 4) (ret := (Option.none : Option Jvm.ClassFile.FieldType)) (by decide) rfl ?_
  intro p e s m args below meth c s₁ B hml hv
  obtain ⟨rfl, hsz, hP, hK, hD0, hE⟩ := hv
  have hx := B.exec
  have hb := B.bytes
  have hr := B.returns
  have hts0 := atoms_spec (ws := wz yX2_put cX2_put 4 (Option.none : Option Jvm.ClassFile.FieldType)) B.pre
  have hts : ∀ w ∈ gw, w.before _ s = true := fun w h => hts0 w (List.mem_cons_of_mem _ h)
  have hown : s.vm.findClass RX2 = some m.cls := findClass_of_methodNamed B.named
  have hlocks := B.notSynchronized
  subst hsz
  have hD := hD0.self (sz := s.heap.size)
  generalize hAe : va_A [(a1, .inl (k4, usesN, .inr (.inl G5))), (a0, .inr (9, [.int i45, .int i46, .int i47, .ref a1, .ref a48, .ref a6, .ref a9, .ref a12, .int i49, .ref a15, .ref a18, .ref a21, .ref a24, .ref a27, .ref a30, .ref a33, .ref a36, .ref a39, .ref a42]))] s.heap.size = A at hD hE ⊢
  have hA : ∀ q : Nat, s.heap.size ≤ q → A q := fun q h => by rw [← hAe]; exact Or.inr h
  have hS : va_S A s.heap s.heap [] := va_S.rf
  have hP : va_P (dC, dI) cls [(a1, .inl (k4, usesN, .inr (.inl G5))), (a0, .inr (9, [.int i45, .int i46, .int i47, .ref a1, .ref a48, .ref a6, .ref a9, .ref a12, .int i49, .ref a15, .ref a18, .ref a21, .ref a24, .ref a27, .ref a30, .ref a33, .ref a36, .ref a39, .ref a42]))] s.heap := hP
  have hl := lv_entry ([.ref a0, .ref a1, .int i2, .int i3]) (n := 4) (Nat.le_of_ble_eq_true rfl)
  rw [lg_entry_eq]
  generalize (lg_sl ([.ref a0, .ref a1, .int i2, .int i3]) ++ List.replicate (4 - (lg_sl ([.ref a0, .ref a1, .int i2, .int i3])).length) Slot.unset).toArray = ls at hl ⊢
  have hl : lv_has ls 4 [(0, .ref a0), (1, .ref a1), (2, .int i2), (3, .int i3)] := hl
  refine lv_aload_n hx hb dX2_put_0 rfl (lv_at hl 1 rfl) ?_
  refine lv_iload_n hx hb dX2_put_1 rfl (lv_at hl 2 rfl) ?_
  refine lv_aload_n hx hb dX2_put_2 rfl (lv_at hl 0 rfl) ?_
  refine va_get (D := (dC, dI)) (ci := 9) (v := .int i47) (C := RX2) (T := TX2) (N := 19) hx hb hts i_X2 hown hK hP 1 rfl rfl 2 (by decide) (hts _ qw377) (fun _ h9 => h9) rfl dX2_put_3 ?_
  refine lv_imul hx hb dX2_put_6 ?_
  refine lv_iload_n hx hb dX2_put_7 rfl (lv_at hl 3 rfl) ?_
  refine lv_bipush (v := 6) hx hb dX2_put_8 (by decide) ?_
  refine lv_ishr hx hb dX2_put_10 ?_
  refine lv_iadd hx hb dX2_put_11 ?_
  refine lv_dup2_11 hx hb dX2_put_12 rfl rfl ?_
  refine va_lald hx hb hK hP 0 0 rfl rfl (hq1) dX2_put_13 ?_
  refine lv_lconst (v := 1) hx hb dX2_put_14 (by decide) ?_
  refine lv_iload_n hx hb dX2_put_15 rfl (lv_at hl 3 rfl) ?_
  refine lv_bipush (v := 63) hx hb dX2_put_16 (by decide) ?_
  refine lv_iand hx hb dX2_put_18 ?_
  refine lv_lshl (v := (((1 : Int64) <<< (((i3 &&& 63) : Int32).toInt64 &&& 63)))) hx hb dX2_put_19 rfl ?_
  refine lv_lor hx hb dX2_put_20 ?_
  refine va_last hx hb hK hP hD hS 0 0 rfl rfl (hq1) dX2_put_21 (fun H locs hP hD hS => ?_)
  have hP : va_P (dC, dI) cls [(a1, .inl (k4, usesN, .inr (.inl (vp_updL G5 (Int32.toNatClampNeg ((i2 * i47) + (i3 >>> (6 &&& 31)))) ((G5 (Int32.toNatClampNeg ((i2 * i47) + (i3 >>> (6 &&& 31))))) ||| (((1 : Int64) <<< (((i3 &&& 63) : Int32).toInt64 &&& 63)))))))), (a0, .inr (9, [.int i45, .int i46, .int i47, .ref a1, .ref a48, .ref a6, .ref a9, .ref a12, .int i49, .ref a15, .ref a18, .ref a21, .ref a24, .ref a27, .ref a30, .ref a33, .ref a36, .ref a39, .ref a42]))] H := hP
  have hD : va_D A [(a1, .inl (k4, usesN, .inr (.inl (vp_updL G5 (Int32.toNatClampNeg ((i2 * i47) + (i3 >>> (6 &&& 31)))) ((G5 (Int32.toNatClampNeg ((i2 * i47) + (i3 >>> (6 &&& 31))))) ||| (((1 : Int64) <<< (((i3 &&& 63) : Int32).toInt64 &&& 63)))))))), (a0, .inr (9, [.int i45, .int i46, .int i47, .ref a1, .ref a48, .ref a6, .ref a9, .ref a12, .int i49, .ref a15, .ref a18, .ref a21, .ref a24, .ref a27, .ref a30, .ref a33, .ref a36, .ref a39, .ref a42]))] := hD
  have hP9 : va_P (dC, dI) cls [(a1, .inl (k4, usesN, .inr (.inl (vp_updL G5 (Int32.toNatClampNeg ((i2 * i47) + (i3 >>> (6 &&& 31)))) ((G5 (Int32.toNatClampNeg ((i2 * i47) + (i3 >>> (6 &&& 31))))) ||| (((1 : Int64) <<< (((i3 &&& 63) : Int32).toInt64 &&& 63)))))))), (a0, .inr (9, [.int i45, .int i46, .int i47, .ref a1, .ref a48, .ref a6, .ref a9, .ref a12, .int i49, .ref a15, .ref a18, .ref a21, .ref a24, .ref a27, .ref a30, .ref a33, .ref a36, .ref a39, .ref a42]))] H := by exact hP.sub [0, 1] rfl
  have hD9 : va_D A [(a1, .inl (k4, usesN, .inr (.inl (vp_updL G5 (Int32.toNatClampNeg ((i2 * i47) + (i3 >>> (6 &&& 31)))) ((G5 (Int32.toNatClampNeg ((i2 * i47) + (i3 >>> (6 &&& 31))))) ||| (((1 : Int64) <<< (((i3 &&& 63) : Int32).toInt64 &&& 63)))))))), (a0, .inr (9, [.int i45, .int i46, .int i47, .ref a1, .ref a48, .ref a6, .ref a9, .ref a12, .int i49, .ref a15, .ref a18, .ref a21, .ref a24, .ref a27, .ref a30, .ref a33, .ref a36, .ref a39, .ref a42]))] := by exact hD.sub [0, 1] (by decide) rfl
  have hK9 : va_K (dC, dI) cls [(k4, .long)] s := hK.sub [0] rfl
  refine W.widen (k := 0) (n := 0) (Nat.le_of_ble_eq_true rfl) (Nat.le_of_ble_eq_true rfl) ?_
  exact W.vret hx hb hr (fun t ht hW => ⟨⟨(), rfl, trivial, ⟨by rw [ht]; exact hP9, va_K.moved hW.alike hK9, hD9⟩⟩, hS.F ht⟩) hS.2.2 dX2_put_22
def sX2_noteUse_1 (homes : Int32) (width : Int32) (usesF : Nat → Int64) (givenInF : Nat → Int64) (p0 : Int32) (p1 : Int32) : Nat → Int64 := (if homes ≤ p1 then usesF else (if (sX11_holds_r (givenInF (Int32.toNatClampNeg ((p0 * width) + (p1 >>> (6 &&& 31))))) (p1 &&& 63)) = 0 then (vp_updL usesF (Int32.toNatClampNeg ((p0 * width) + (p1 >>> (6 &&& 31)))) ((usesF (Int32.toNatClampNeg ((p0 * width) + (p1 >>> (6 &&& 31))))) ||| (((1 : Int64) <<< (((p1 &&& 63) : Int32).toInt64 &&& 63))))) else usesF))
set_option maxHeartbeats 4000000 in
set_option maxRecDepth 100000 in
theorem kX2_noteUse {zs : Nat × Nat} (l : Launch) (dC : Nat → ClassId) (dI : Nat → Nat → Nat) (h0 : Nat) (homes : Int32) (values : Int32) (width : Int32) (usesA : Nat) (usesN : Nat) (usesC : ClassId) (usesF : Nat → Int64) (givenInA : Nat) (givenInN : Nat) (givenInC : ClassId) (givenInF : Nat → Int64) (liveInA : Nat) (liveA : Nat) (liveGuestsA : Nat) (guests : Int32) (chainA : Nat) (nearA : Nat) (mateA : Nat) (degreeA : Nat) (costA : Nat) (giversA : Nat) (giverA : Nat) (registerA : Nat) (leftA : Nat) (orderA : Nat) (p0 : Int32) (p1 : Int32) (sz : Nat) (hq1 : ¬ (homes ≤ p1) → vp_in ((p0 * width) + (p1 >>> (6 &&& 31))) givenInN) (hq2 : ¬ (homes ≤ p1) → (sX11_holds_r (givenInF (Int32.toNatClampNeg ((p0 * width) + (p1 >>> (6 &&& 31))))) (p1 &&& 63)) = 0 → vp_in ((p0 * width) + (p1 >>> (6 &&& 31))) usesN) : Met l yX2_noteUse (wz yX2_noteUse cX2_noteUse 3 (Option.none : Option Jvm.ClassFile.FieldType)) ({ frames := 2, cells := 0, slots := 0, locals := 45 }) (va_Pc [.ref h0, .int p0, .int p1] (PRE zs dC dI [(h0, .inr (9, [.int homes, .int values, .int width, .ref usesA, .ref givenInA, .ref liveInA, .ref liveA, .ref liveGuestsA, .int guests, .ref chainA, .ref nearA, .ref mateA, .ref degreeA, .ref costA, .ref giversA, .ref giverA, .ref registerA, .ref leftA, .ref orderA])), (usesA, .inl (usesC, usesN, .inr (.inl usesF))), (givenInA, .inl (givenInC, givenInN, .inr (.inl givenInF)))] [(usesC, .long), (givenInC, .long)] sz)) (va_Qv (fun (_ : Unit) => True) (fun _ t => POST dC dI [(h0, .inr (9, [.int homes, .int values, .int width, .ref usesA, .ref givenInA, .ref liveInA, .ref liveA, .ref liveGuestsA, .int guests, .ref chainA, .ref nearA, .ref mateA, .ref degreeA, .ref costA, .ref giversA, .ref giverA, .ref registerA, .ref leftA, .ref orderA])), (usesA, .inl (usesC, usesN, .inr (.inl (sX2_noteUse_1 homes width usesF givenInF p0 p1)))), (givenInA, .inl (givenInC, givenInN, .inr (.inl givenInF)))] [(usesC, .long), (givenInC, .long)] (va_A [(h0, .inr (9, [.int homes, .int values, .int width, .ref usesA, .ref givenInA, .ref liveInA, .ref liveA, .ref liveGuestsA, .int guests, .ref chainA, .ref nearA, .ref mateA, .ref degreeA, .ref costA, .ref giversA, .ref giverA, .ref registerA, .ref leftA, .ref orderA])), (usesA, .inl (usesC, usesN, .inr (.inl usesF))), (givenInA, .inl (givenInC, givenInN, .inr (.inl givenInF)))] sz) t) (va_A [(h0, .inr (9, [.int homes, .int values, .int width, .ref usesA, .ref givenInA, .ref liveInA, .ref liveA, .ref liveGuestsA, .int guests, .ref chainA, .ref nearA, .ref mateA, .ref degreeA, .ref costA, .ref giversA, .ref giverA, .ref registerA, .ref leftA, .ref orderA])), (usesA, .inl (usesC, usesN, .inr (.inl usesF))), (givenInA, .inl (givenInC, givenInN, .inr (.inl givenInF)))] sz)) 0 0 (va_A [(h0, .inr (9, [.int homes, .int values, .int width, .ref usesA, .ref givenInA, .ref liveInA, .ref liveA, .ref liveGuestsA, .int guests, .ref chainA, .ref nearA, .ref mateA, .ref degreeA, .ref costA, .ref giversA, .ref giverA, .ref registerA, .ref leftA, .ref orderA])), (usesA, .inl (usesC, usesN, .inr (.inl usesF))), (givenInA, .inl (givenInC, givenInN, .inr (.inl givenInF)))] sz) := by
  refine Met.ofW (cc := cX2_noteUse) (maxL := 3) (ret := (Option.none : Option Jvm.ClassFile.FieldType)) (by decide) rfl ?_
  intro p e s m args below meth c s₁ B hml hv
  obtain ⟨rfl, hsz, hP, hK, hD0, hE⟩ := hv
  have hx := B.exec
  have hb := B.bytes
  have hr := B.returns
  have hts0 := atoms_spec (ws := wz yX2_noteUse cX2_noteUse 3 (Option.none : Option Jvm.ClassFile.FieldType)) B.pre
  have hts : ∀ w ∈ gw, w.before _ s = true := fun w h => hts0 w (List.mem_cons_of_mem _ h)
  have hown : s.vm.findClass RX2 = some m.cls := findClass_of_methodNamed B.named
  have hlocks := B.notSynchronized
  subst hsz
  have hD := hD0.self (sz := s.heap.size)
  generalize hAe : va_A [(h0, .inr (9, [.int homes, .int values, .int width, .ref usesA, .ref givenInA, .ref liveInA, .ref liveA, .ref liveGuestsA, .int guests, .ref chainA, .ref nearA, .ref mateA, .ref degreeA, .ref costA, .ref giversA, .ref giverA, .ref registerA, .ref leftA, .ref orderA])), (usesA, .inl (usesC, usesN, .inr (.inl usesF))), (givenInA, .inl (givenInC, givenInN, .inr (.inl givenInF)))] s.heap.size = A at hD hE ⊢
  have hA : ∀ q : Nat, s.heap.size ≤ q → A q := fun q h => by rw [← hAe]; exact Or.inr h
  have hS : va_S A s.heap s.heap [] := va_S.rf
  have hP : va_P (dC, dI) cls [(h0, .inr (9, [.int homes, .int values, .int width, .ref usesA, .ref givenInA, .ref liveInA, .ref liveA, .ref liveGuestsA, .int guests, .ref chainA, .ref nearA, .ref mateA, .ref degreeA, .ref costA, .ref giversA, .ref giverA, .ref registerA, .ref leftA, .ref orderA])), (usesA, .inl (usesC, usesN, .inr (.inl usesF))), (givenInA, .inl (givenInC, givenInN, .inr (.inl givenInF)))] s.heap := hP
  have hl := lv_entry ([.ref h0, .int p0, .int p1]) (n := 3) (Nat.le_of_ble_eq_true rfl)
  rw [lg_entry_eq]
  generalize (lg_sl ([.ref h0, .int p0, .int p1]) ++ List.replicate (3 - (lg_sl ([.ref h0, .int p0, .int p1])).length) Slot.unset).toArray = ls at hl ⊢
  have hl : lv_has ls 3 [(0, .ref h0), (1, .int p0), (2, .int p1)] := hl
  refine lv_iload_n hx hb dX2_noteUse_0 rfl (lv_at hl 2 rfl) ?_
  refine lv_aload_n hx hb dX2_noteUse_1 rfl (lv_at hl 0 rfl) ?_
  refine va_get (D := (dC, dI)) (ci := 9) (v := .int homes) (C := RX2) (T := TX2) (N := 19) hx hb hts i_X2 hown hK hP 0 rfl rfl 0 (by decide) (hts _ qw375) (fun _ h9 => h9) rfl dX2_noteUse_2 ?_
  by_cases hc1 : homes ≤ p1
  · refine lv_icmp_ge (tgt := 31) hx hb dX2_noteUse_5 (by decide) (fun _ => ?_) (fun c => absurd hc1 c)
    have e_sX2_noteUse_1 : sX2_noteUse_1 homes width usesF givenInF p0 p1 = usesF := by unfold sX2_noteUse_1; rw [if_pos hc1]
    have hP9 : va_P (dC, dI) cls [(h0, .inr (9, [.int homes, .int values, .int width, .ref usesA, .ref givenInA, .ref liveInA, .ref liveA, .ref liveGuestsA, .int guests, .ref chainA, .ref nearA, .ref mateA, .ref degreeA, .ref costA, .ref giversA, .ref giverA, .ref registerA, .ref leftA, .ref orderA])), (usesA, .inl (usesC, usesN, .inr (.inl (sX2_noteUse_1 homes width usesF givenInF p0 p1)))), (givenInA, .inl (givenInC, givenInN, .inr (.inl givenInF)))] s.heap := by rw [e_sX2_noteUse_1]; exact hP.sub [0, 1, 2] rfl
    have hD9 : va_D A [(h0, .inr (9, [.int homes, .int values, .int width, .ref usesA, .ref givenInA, .ref liveInA, .ref liveA, .ref liveGuestsA, .int guests, .ref chainA, .ref nearA, .ref mateA, .ref degreeA, .ref costA, .ref giversA, .ref giverA, .ref registerA, .ref leftA, .ref orderA])), (usesA, .inl (usesC, usesN, .inr (.inl (sX2_noteUse_1 homes width usesF givenInF p0 p1)))), (givenInA, .inl (givenInC, givenInN, .inr (.inl givenInF)))] := by rw [e_sX2_noteUse_1]; exact hD.sub [0, 1, 2] (by decide) rfl
    have hK9 : va_K (dC, dI) cls [(usesC, .long), (givenInC, .long)] s := hK.sub [0, 1] rfl
    refine W.widen (k := 0) (n := 0) (Nat.le_of_ble_eq_true rfl) (Nat.le_of_ble_eq_true rfl) ?_
    exact W.vret hx hb hr (fun t ht hW => ⟨⟨(), rfl, trivial, ⟨by rw [ht]; exact hP9, va_K.moved hW.alike hK9, hD9⟩⟩, hS.F ht⟩) hS.2.2 dX2_noteUse_31
  · refine lv_icmp_ge (tgt := 31) hx hb dX2_noteUse_5 (by decide) (fun c => absurd c hc1) (fun _ => ?_)
    refine lv_aload_n hx hb dX2_noteUse_8 rfl (lv_at hl 0 rfl) ?_
    refine lv_aload_n hx hb dX2_noteUse_9 rfl (lv_at hl 0 rfl) ?_
    refine va_get (D := (dC, dI)) (ci := 9) (v := .ref givenInA) (C := RX2) (T := TX2) (N := 19) hx hb hts i_X2 hown hK hP 0 rfl rfl 4 (by decide) (hts _ qw96) (fun _ h9 => h9) rfl dX2_noteUse_10 ?_
    refine lv_iload_n hx hb dX2_noteUse_13 rfl (lv_at hl 1 rfl) ?_
    refine lv_iload_n hx hb dX2_noteUse_14 rfl (lv_at hl 2 rfl) ?_
    have hPc := hP.sub (ws' := [(h0, .inr (9, [.int homes, .int values, .int width, .ref usesA, .ref givenInA, .ref liveInA, .ref liveA, .ref liveGuestsA, .int guests, .ref chainA, .ref nearA, .ref mateA, .ref degreeA, .ref costA, .ref giversA, .ref giverA, .ref registerA, .ref leftA, .ref orderA])), (givenInA, .inl (givenInC, givenInN, .inr (.inl givenInF)))]) [0, 2] rfl
    have hDc := hD.sub (ws' := [(h0, .inr (9, [.int homes, .int values, .int width, .ref usesA, .ref givenInA, .ref liveInA, .ref liveA, .ref liveGuestsA, .int guests, .ref chainA, .ref nearA, .ref mateA, .ref degreeA, .ref costA, .ref giversA, .ref giverA, .ref registerA, .ref leftA, .ref orderA])), (givenInA, .inl (givenInC, givenInN, .inr (.inl givenInF)))]) [0, 2] (by decide) rfl
    have hKc := hK.sub (tys' := [(givenInC, .long)]) [1] rfl
    have hFc := va_free (wc := [(h0, .inr (9, [.int homes, .int values, .int width, .ref usesA, .ref givenInA, .ref liveInA, .ref liveA, .ref liveGuestsA, .int guests, .ref chainA, .ref nearA, .ref mateA, .ref degreeA, .ref costA, .ref giversA, .ref giverA, .ref registerA, .ref leftA, .ref orderA])), (givenInA, .inl (givenInC, givenInN, .inr (.inl givenInF)))]) hD hS hA [0, 2] rfl
    refine va_calli (va_runV (As := [.ref givenInA, .int p0, .int p1]) (rest := []) ⟨hx, hb, hml, hown, hts⟩ (kX2_isIn_n142 l dC dI (a0 := h0) (a1 := givenInA) (i2 := p0) (i3 := p1) (i4 := homes) (i5 := values) (i6 := width) (a7 := usesA) (a8 := liveInA) (a9 := liveA) (a10 := liveGuestsA) (i11 := guests) (a12 := chainA) (a13 := nearA) (a14 := mateA) (a15 := degreeA) (a16 := costA) (a17 := giversA) (a18 := giverA) (a19 := registerA) (a20 := leftA) (a21 := orderA) (k24 := givenInC) (G25 := givenInF) (sz := _) (hf0 := hc1) (hq1 := (hq1 hc1))) (cwV 3 hts (gi_V qw380 qw381 qw382 qw383 (gi_z qw379)) rfl rfl rfl (by decide +kernel) ⟨Nat.le_of_ble_eq_true rfl, Nat.le_of_ble_eq_true rfl⟩) ⟨PRE.blind, va_recv hKc hPc (ci := 9) (q0 := 0) rfl rfl, PRE.of hE hS hFc hPc hKc hDc⟩ rfl rfl hl.1 rfl (lv_room (Nat.le_of_ble_eq_true rfl)) dX2_noteUse_15 ⟨Nat.le_of_ble_eq_true rfl, Nat.le_of_ble_eq_true rfl⟩) hS (fun q _ h => hFc q h) hFc (fun r1 u t H locs ht hvm hw hB hz1 hk1 hS => ?_)
    obtain ⟨hP, hD, hK⟩ := JOIN (wr := [(usesA, .inl (usesC, usesN, .inr (.inl usesF)))]) hP hD hK [0, 2] [1] [0] rfl rfl (by decide) (by decide) rfl hk1 hFc ht hvm hB
    have hP : va_P (dC, dI) cls [(usesA, .inl (usesC, usesN, .inr (.inl usesF))), (h0, .inr (9, [.int homes, .int values, .int width, .ref usesA, .ref givenInA, .ref liveInA, .ref liveA, .ref liveGuestsA, .int guests, .ref chainA, .ref nearA, .ref mateA, .ref degreeA, .ref costA, .ref giversA, .ref giverA, .ref registerA, .ref leftA, .ref orderA])), (givenInA, .inl (givenInC, givenInN, .inr (.inl givenInF)))] H := hP
    have hD : va_D A [(usesA, .inl (usesC, usesN, .inr (.inl usesF))), (h0, .inr (9, [.int homes, .int values, .int width, .ref usesA, .ref givenInA, .ref liveInA, .ref liveA, .ref liveGuestsA, .int guests, .ref chainA, .ref nearA, .ref mateA, .ref degreeA, .ref costA, .ref giversA, .ref giverA, .ref registerA, .ref leftA, .ref orderA])), (givenInA, .inl (givenInC, givenInN, .inr (.inl givenInF)))] := hD
    have hK : va_K (dC, dI) cls [(usesC, .long), (givenInC, .long)] s := hK
    refine W.widen (k := 0) (n := 0) (Nat.le_of_ble_eq_true rfl) (Nat.le_of_ble_eq_true rfl) ?_
    obtain rfl : r1 = (sX11_holds_r (givenInF (Int32.toNatClampNeg ((p0 * width) + (p1 >>> (6 &&& 31))))) (p1 &&& 63)) := hw
    by_cases hc2 : (sX11_holds_r (givenInF (Int32.toNatClampNeg ((p0 * width) + (p1 >>> (6 &&& 31))))) (p1 &&& 63)) = 0
    · refine lv_if_ne (tgt := 31) hx hb dX2_noteUse_18 (by decide) (fun c => absurd hc2 c) (fun _ => ?_)
      refine lv_aload_n hx hb dX2_noteUse_21 rfl (lv_at hl 0 rfl) ?_
      refine lv_aload_n hx hb dX2_noteUse_22 rfl (lv_at hl 0 rfl) ?_
      refine va_get (D := (dC, dI)) (ci := 9) (v := .ref usesA) (C := RX2) (T := TX2) (N := 19) hx hb hts i_X2 hown hK hP 1 rfl rfl 3 (by decide) (hts _ qw95) (fun _ h9 => h9) rfl dX2_noteUse_23 ?_
      refine lv_iload_n hx hb dX2_noteUse_26 rfl (lv_at hl 1 rfl) ?_
      refine lv_iload_n hx hb dX2_noteUse_27 rfl (lv_at hl 2 rfl) ?_
      have hPc := hP.sub (ws' := [(usesA, .inl (usesC, usesN, .inr (.inl usesF))), (h0, .inr (9, [.int homes, .int values, .int width, .ref usesA, .ref givenInA, .ref liveInA, .ref liveA, .ref liveGuestsA, .int guests, .ref chainA, .ref nearA, .ref mateA, .ref degreeA, .ref costA, .ref giversA, .ref giverA, .ref registerA, .ref leftA, .ref orderA]))]) [0, 1] rfl
      have hDc := hD.sub (ws' := [(usesA, .inl (usesC, usesN, .inr (.inl usesF))), (h0, .inr (9, [.int homes, .int values, .int width, .ref usesA, .ref givenInA, .ref liveInA, .ref liveA, .ref liveGuestsA, .int guests, .ref chainA, .ref nearA, .ref mateA, .ref degreeA, .ref costA, .ref giversA, .ref giverA, .ref registerA, .ref leftA, .ref orderA]))]) [0, 1] (by decide) rfl
      have hKc := hK.sub (tys' := [(usesC, .long)]) [0] rfl
      have hFc := va_free (wc := [(usesA, .inl (usesC, usesN, .inr (.inl usesF))), (h0, .inr (9, [.int homes, .int values, .int width, .ref usesA, .ref givenInA, .ref liveInA, .ref liveA, .ref liveGuestsA, .int guests, .ref chainA, .ref nearA, .ref mateA, .ref degreeA, .ref costA, .ref giversA, .ref giverA, .ref registerA, .ref leftA, .ref orderA]))]) hD hS hA [0, 1] rfl
      refine va_callv (va_runV (As := [.ref usesA, .int p0, .int p1]) (rest := []) ⟨hx, hb, hml, hown, hts⟩ (kX2_put_n143 l dC dI (a0 := h0) (a1 := usesA) (i2 := p0) (i3 := p1) (k4 := usesC) (G5 := usesF) (a6 := liveInA) (a9 := liveA) (a12 := liveGuestsA) (a15 := chainA) (a18 := nearA) (a21 := mateA) (a24 := degreeA) (a27 := costA) (a30 := giversA) (a33 := giverA) (a36 := registerA) (a39 := leftA) (a42 := orderA) (i45 := homes) (i46 := values) (i47 := width) (a48 := givenInA) (i49 := guests) (sz := _) (hf0 := hc1) (hq1 := (hq2 hc1 hc2))) (cwV 3 hts (gi_V qw386 qw387 qw388 qw383 (gi_z qw385)) rfl rfl rfl (by decide +kernel) ⟨Nat.le_of_ble_eq_true rfl, Nat.le_of_ble_eq_true rfl⟩) ⟨PRE.blind, va_recv hKc hPc (ci := 9) (q0 := 1) rfl rfl, PRE.of hE hS hFc hPc hKc hDc⟩ rfl rfl hl.1 rfl (lv_room (Nat.le_of_ble_eq_true rfl)) dX2_noteUse_28 ⟨Nat.le_of_ble_eq_true rfl, Nat.le_of_ble_eq_true rfl⟩) hS (fun q _ h => hFc q h) hFc (fun u t H locs ht hvm hw hB hz1 hk1 hS => ?_)
      obtain ⟨hP, hD, hK⟩ := JOIN (wr := [(givenInA, .inl (givenInC, givenInN, .inr (.inl givenInF)))]) hP hD hK [0, 1] [2] [1] rfl rfl (by decide) (by decide) rfl hk1 hFc ht hvm hB
      have hP : va_P (dC, dI) cls [(givenInA, .inl (givenInC, givenInN, .inr (.inl givenInF))), (usesA, .inl (usesC, usesN, .inr (.inl (vp_updL usesF (Int32.toNatClampNeg ((p0 * width) + (p1 >>> (6 &&& 31)))) ((usesF (Int32.toNatClampNeg ((p0 * width) + (p1 >>> (6 &&& 31))))) ||| (((1 : Int64) <<< (((p1 &&& 63) : Int32).toInt64 &&& 63)))))))), (h0, .inr (9, [.int homes, .int values, .int width, .ref usesA, .ref givenInA, .ref liveInA, .ref liveA, .ref liveGuestsA, .int guests, .ref chainA, .ref nearA, .ref mateA, .ref degreeA, .ref costA, .ref giversA, .ref giverA, .ref registerA, .ref leftA, .ref orderA]))] H := hP
      have hD : va_D A [(givenInA, .inl (givenInC, givenInN, .inr (.inl givenInF))), (usesA, .inl (usesC, usesN, .inr (.inl (vp_updL usesF (Int32.toNatClampNeg ((p0 * width) + (p1 >>> (6 &&& 31)))) ((usesF (Int32.toNatClampNeg ((p0 * width) + (p1 >>> (6 &&& 31))))) ||| (((1 : Int64) <<< (((p1 &&& 63) : Int32).toInt64 &&& 63)))))))), (h0, .inr (9, [.int homes, .int values, .int width, .ref usesA, .ref givenInA, .ref liveInA, .ref liveA, .ref liveGuestsA, .int guests, .ref chainA, .ref nearA, .ref mateA, .ref degreeA, .ref costA, .ref giversA, .ref giverA, .ref registerA, .ref leftA, .ref orderA]))] := hD
      have hK : va_K (dC, dI) cls [(givenInC, .long), (usesC, .long)] s := hK
      refine W.widen (k := 0) (n := 0) (Nat.le_of_ble_eq_true rfl) (Nat.le_of_ble_eq_true rfl) ?_
      have e_sX2_noteUse_1 : sX2_noteUse_1 homes width usesF givenInF p0 p1 = (vp_updL usesF (Int32.toNatClampNeg ((p0 * width) + (p1 >>> (6 &&& 31)))) ((usesF (Int32.toNatClampNeg ((p0 * width) + (p1 >>> (6 &&& 31))))) ||| (((1 : Int64) <<< (((p1 &&& 63) : Int32).toInt64 &&& 63))))) := by unfold sX2_noteUse_1; rw [if_neg hc1, if_pos hc2]
      have hP9 : va_P (dC, dI) cls [(h0, .inr (9, [.int homes, .int values, .int width, .ref usesA, .ref givenInA, .ref liveInA, .ref liveA, .ref liveGuestsA, .int guests, .ref chainA, .ref nearA, .ref mateA, .ref degreeA, .ref costA, .ref giversA, .ref giverA, .ref registerA, .ref leftA, .ref orderA])), (usesA, .inl (usesC, usesN, .inr (.inl (sX2_noteUse_1 homes width usesF givenInF p0 p1)))), (givenInA, .inl (givenInC, givenInN, .inr (.inl givenInF)))] H := by rw [e_sX2_noteUse_1]; exact hP.sub [2, 1, 0] rfl
      have hD9 : va_D A [(h0, .inr (9, [.int homes, .int values, .int width, .ref usesA, .ref givenInA, .ref liveInA, .ref liveA, .ref liveGuestsA, .int guests, .ref chainA, .ref nearA, .ref mateA, .ref degreeA, .ref costA, .ref giversA, .ref giverA, .ref registerA, .ref leftA, .ref orderA])), (usesA, .inl (usesC, usesN, .inr (.inl (sX2_noteUse_1 homes width usesF givenInF p0 p1)))), (givenInA, .inl (givenInC, givenInN, .inr (.inl givenInF)))] := by rw [e_sX2_noteUse_1]; exact hD.sub [2, 1, 0] (by decide) rfl
      have hK9 : va_K (dC, dI) cls [(usesC, .long), (givenInC, .long)] s := hK.sub [1, 0] rfl
      refine W.widen (k := 0) (n := 0) (Nat.le_of_ble_eq_true rfl) (Nat.le_of_ble_eq_true rfl) ?_
      exact W.vret hx hb hr (fun t ht hW => ⟨⟨(), rfl, trivial, ⟨by rw [ht]; exact hP9, va_K.moved hW.alike hK9, hD9⟩⟩, hS.F ht⟩) hS.2.2 dX2_noteUse_31
    · refine lv_if_ne (tgt := 31) hx hb dX2_noteUse_18 (by decide) (fun _ => ?_) (fun c => absurd c hc2)
      have e_sX2_noteUse_1 : sX2_noteUse_1 homes width usesF givenInF p0 p1 = usesF := by unfold sX2_noteUse_1; rw [if_neg hc1, if_neg hc2]
      have hP9 : va_P (dC, dI) cls [(h0, .inr (9, [.int homes, .int values, .int width, .ref usesA, .ref givenInA, .ref liveInA, .ref liveA, .ref liveGuestsA, .int guests, .ref chainA, .ref nearA, .ref mateA, .ref degreeA, .ref costA, .ref giversA, .ref giverA, .ref registerA, .ref leftA, .ref orderA])), (usesA, .inl (usesC, usesN, .inr (.inl (sX2_noteUse_1 homes width usesF givenInF p0 p1)))), (givenInA, .inl (givenInC, givenInN, .inr (.inl givenInF)))] H := by rw [e_sX2_noteUse_1]; exact hP.sub [1, 0, 2] rfl
      have hD9 : va_D A [(h0, .inr (9, [.int homes, .int values, .int width, .ref usesA, .ref givenInA, .ref liveInA, .ref liveA, .ref liveGuestsA, .int guests, .ref chainA, .ref nearA, .ref mateA, .ref degreeA, .ref costA, .ref giversA, .ref giverA, .ref registerA, .ref leftA, .ref orderA])), (usesA, .inl (usesC, usesN, .inr (.inl (sX2_noteUse_1 homes width usesF givenInF p0 p1)))), (givenInA, .inl (givenInC, givenInN, .inr (.inl givenInF)))] := by rw [e_sX2_noteUse_1]; exact hD.sub [1, 0, 2] (by decide) rfl
      have hK9 : va_K (dC, dI) cls [(usesC, .long), (givenInC, .long)] s := hK.sub [0, 1] rfl
      refine W.widen (k := 0) (n := 0) (Nat.le_of_ble_eq_true rfl) (Nat.le_of_ble_eq_true rfl) ?_
      exact W.vret hx hb hr (fun t ht hW => ⟨⟨(), rfl, trivial, ⟨by rw [ht]; exact hP9, va_K.moved hW.alike hK9, hD9⟩⟩, hS.F ht⟩) hS.2.2 dX2_noteUse_31
def sX2_registerBit_r (registerF : Nat → Int32) (p0 : Int32) : Int32 := (if 0 ≤ (registerF (Int32.toNatClampNeg p0)) then (1 <<< ((registerF (Int32.toNatClampNeg p0)) &&& 31)) else 0)
set_option maxHeartbeats 4000000 in
set_option maxRecDepth 100000 in
theorem kX2_registerBit {zs : Nat × Nat} (l : Launch) (dC : Nat → ClassId) (dI : Nat → Nat → Nat) (h0 : Nat) (homes : Int32) (values : Int32) (width : Int32) (usesA : Nat) (givenInA : Nat) (liveInA : Nat) (liveA : Nat) (liveGuestsA : Nat) (guests : Int32) (chainA : Nat) (nearA : Nat) (mateA : Nat) (degreeA : Nat) (costA : Nat) (giversA : Nat) (giverA : Nat) (registerA : Nat) (registerN : Nat) (registerC : ClassId) (registerF : Nat → Int32) (leftA : Nat) (orderA : Nat) (p0 : Int32) (sz : Nat) (hq1 : vp_in p0 registerN) : Met l yX2_registerBit (wz yX2_registerBit cX2_registerBit 2 (Option.some Jvm.ClassFile.FieldType.int)) ({ frames := 0, cells := 0, slots := 0, locals := 0 }) (va_Pc [.ref h0, .int p0] (PRE zs dC dI [(h0, .inr (9, [.int homes, .int values, .int width, .ref usesA, .ref givenInA, .ref liveInA, .ref liveA, .ref liveGuestsA, .int guests, .ref chainA, .ref nearA, .ref mateA, .ref degreeA, .ref costA, .ref giversA, .ref giverA, .ref registerA, .ref leftA, .ref orderA])), (registerA, .inl (registerC, registerN, .inl registerF))] [(registerC, .int)] sz)) (va_Qi (fun (r : Int32) (_ : Unit) => r = (sX2_registerBit_r registerF p0)) (fun _ t => POST dC dI [(h0, .inr (9, [.int homes, .int values, .int width, .ref usesA, .ref givenInA, .ref liveInA, .ref liveA, .ref liveGuestsA, .int guests, .ref chainA, .ref nearA, .ref mateA, .ref degreeA, .ref costA, .ref giversA, .ref giverA, .ref registerA, .ref leftA, .ref orderA])), (registerA, .inl (registerC, registerN, .inl registerF))] [(registerC, .int)] (va_A [(h0, .inr (9, [.int homes, .int values, .int width, .ref usesA, .ref givenInA, .ref liveInA, .ref liveA, .ref liveGuestsA, .int guests, .ref chainA, .ref nearA, .ref mateA, .ref degreeA, .ref costA, .ref giversA, .ref giverA, .ref registerA, .ref leftA, .ref orderA])), (registerA, .inl (registerC, registerN, .inl registerF))] sz) t) (va_A [(h0, .inr (9, [.int homes, .int values, .int width, .ref usesA, .ref givenInA, .ref liveInA, .ref liveA, .ref liveGuestsA, .int guests, .ref chainA, .ref nearA, .ref mateA, .ref degreeA, .ref costA, .ref giversA, .ref giverA, .ref registerA, .ref leftA, .ref orderA])), (registerA, .inl (registerC, registerN, .inl registerF))] sz)) 0 0 (va_A [(h0, .inr (9, [.int homes, .int values, .int width, .ref usesA, .ref givenInA, .ref liveInA, .ref liveA, .ref liveGuestsA, .int guests, .ref chainA, .ref nearA, .ref mateA, .ref degreeA, .ref costA, .ref giversA, .ref giverA, .ref registerA, .ref leftA, .ref orderA])), (registerA, .inl (registerC, registerN, .inl registerF))] sz) := by
  refine Met.ofW (cc := cX2_registerBit) (maxL := 2) (ret := (Option.some Jvm.ClassFile.FieldType.int)) (by decide) rfl ?_
  intro p e s m args below meth c s₁ B hml hv
  obtain ⟨rfl, hsz, hP, hK, hD0, hE⟩ := hv
  have hx := B.exec
  have hb := B.bytes
  have hr := B.returns
  have hts0 := atoms_spec (ws := wz yX2_registerBit cX2_registerBit 2 (Option.some Jvm.ClassFile.FieldType.int)) B.pre
  have hts : ∀ w ∈ gw, w.before _ s = true := fun w h => hts0 w (List.mem_cons_of_mem _ h)
  have hown : s.vm.findClass RX2 = some m.cls := findClass_of_methodNamed B.named
  have hlocks := B.notSynchronized
  subst hsz
  have hD := hD0.self (sz := s.heap.size)
  generalize hAe : va_A [(h0, .inr (9, [.int homes, .int values, .int width, .ref usesA, .ref givenInA, .ref liveInA, .ref liveA, .ref liveGuestsA, .int guests, .ref chainA, .ref nearA, .ref mateA, .ref degreeA, .ref costA, .ref giversA, .ref giverA, .ref registerA, .ref leftA, .ref orderA])), (registerA, .inl (registerC, registerN, .inl registerF))] s.heap.size = A at hD hE ⊢
  have hA : ∀ q : Nat, s.heap.size ≤ q → A q := fun q h => by rw [← hAe]; exact Or.inr h
  have hS : va_S A s.heap s.heap [] := va_S.rf
  have hP : va_P (dC, dI) cls [(h0, .inr (9, [.int homes, .int values, .int width, .ref usesA, .ref givenInA, .ref liveInA, .ref liveA, .ref liveGuestsA, .int guests, .ref chainA, .ref nearA, .ref mateA, .ref degreeA, .ref costA, .ref giversA, .ref giverA, .ref registerA, .ref leftA, .ref orderA])), (registerA, .inl (registerC, registerN, .inl registerF))] s.heap := hP
  have hl := lv_entry ([.ref h0, .int p0]) (n := 2) (Nat.le_of_ble_eq_true rfl)
  rw [lg_entry_eq]
  generalize (lg_sl ([.ref h0, .int p0]) ++ List.replicate (2 - (lg_sl ([.ref h0, .int p0])).length) Slot.unset).toArray = ls at hl ⊢
  have hl : lv_has ls 2 [(0, .ref h0), (1, .int p0)] := hl
  refine lv_aload_n hx hb dX2_registerBit_0 rfl (lv_at hl 0 rfl) ?_
  refine va_get (D := (dC, dI)) (ci := 9) (v := .ref registerA) (C := RX2) (T := TX2) (N := 19) hx hb hts i_X2 hown hK hP 0 rfl rfl 16 (by decide) (hts _ qw107) (fun _ h9 => h9) rfl dX2_registerBit_1 ?_
  refine lv_iload_n hx hb dX2_registerBit_4 rfl (lv_at hl 1 rfl) ?_
  refine va_iald hx hb hK hP 1 0 rfl rfl (hq1) dX2_registerBit_5 ?_
  by_cases hc1 : 0 ≤ (registerF (Int32.toNatClampNeg p0))
  · refine lv_if_ge (tgt := 13) hx hb dX2_registerBit_6 (by decide) (fun _ => ?_) (fun c => absurd hc1 c)
    refine lv_iconst (v := 1) hx hb dX2_registerBit_13 (by decide) ?_
    refine lv_aload_n hx hb dX2_registerBit_14 rfl (lv_at hl 0 rfl) ?_
    refine va_get (D := (dC, dI)) (ci := 9) (v := .ref registerA) (C := RX2) (T := TX2) (N := 19) hx hb hts i_X2 hown hK hP 0 rfl rfl 16 (by decide) (hts _ qw107) (fun _ h9 => h9) rfl dX2_registerBit_15 ?_
    refine lv_iload_n hx hb dX2_registerBit_18 rfl (lv_at hl 1 rfl) ?_
    refine va_iald hx hb hK hP 1 0 rfl rfl (hq1) dX2_registerBit_19 ?_
    refine lv_ishl hx hb dX2_registerBit_20 ?_
    have e_sX2_registerBit_r : sX2_registerBit_r registerF p0 = (1 <<< ((registerF (Int32.toNatClampNeg p0)) &&& 31)) := by unfold sX2_registerBit_r; rw [if_pos hc1]
    have hP9 : va_P (dC, dI) cls [(h0, .inr (9, [.int homes, .int values, .int width, .ref usesA, .ref givenInA, .ref liveInA, .ref liveA, .ref liveGuestsA, .int guests, .ref chainA, .ref nearA, .ref mateA, .ref degreeA, .ref costA, .ref giversA, .ref giverA, .ref registerA, .ref leftA, .ref orderA])), (registerA, .inl (registerC, registerN, .inl registerF))] s.heap := by exact hP.sub [0, 1] rfl
    have hD9 : va_D A [(h0, .inr (9, [.int homes, .int values, .int width, .ref usesA, .ref givenInA, .ref liveInA, .ref liveA, .ref liveGuestsA, .int guests, .ref chainA, .ref nearA, .ref mateA, .ref degreeA, .ref costA, .ref giversA, .ref giverA, .ref registerA, .ref leftA, .ref orderA])), (registerA, .inl (registerC, registerN, .inl registerF))] := by exact hD.sub [0, 1] (by decide) rfl
    have hK9 : va_K (dC, dI) cls [(registerC, .int)] s := hK.sub [0] rfl
    refine W.widen (k := 0) (n := 0) (Nat.le_of_ble_eq_true rfl) (Nat.le_of_ble_eq_true rfl) ?_
    exact W.iret (v := (1 <<< ((registerF (Int32.toNatClampNeg p0)) &&& 31))) hx hb hr (fun t ht hW => ⟨⟨(1 <<< ((registerF (Int32.toNatClampNeg p0)) &&& 31)), (), rfl, e_sX2_registerBit_r.symm, ⟨by rw [ht]; exact hP9, va_K.moved hW.alike hK9, hD9⟩⟩, hS.F ht⟩) hS.2.2 dX2_registerBit_21
  · refine lv_if_ge (tgt := 13) hx hb dX2_registerBit_6 (by decide) (fun c => absurd c hc1) (fun _ => ?_)
    refine lv_iconst (v := 0) hx hb dX2_registerBit_9 (by decide) ?_
    refine lv_goto (tgt := 21) hx hb dX2_registerBit_10 (by decide) ?_
    have e_sX2_registerBit_r : sX2_registerBit_r registerF p0 = 0 := by unfold sX2_registerBit_r; rw [if_neg hc1]
    have hP9 : va_P (dC, dI) cls [(h0, .inr (9, [.int homes, .int values, .int width, .ref usesA, .ref givenInA, .ref liveInA, .ref liveA, .ref liveGuestsA, .int guests, .ref chainA, .ref nearA, .ref mateA, .ref degreeA, .ref costA, .ref giversA, .ref giverA, .ref registerA, .ref leftA, .ref orderA])), (registerA, .inl (registerC, registerN, .inl registerF))] s.heap := by exact hP.sub [0, 1] rfl
    have hD9 : va_D A [(h0, .inr (9, [.int homes, .int values, .int width, .ref usesA, .ref givenInA, .ref liveInA, .ref liveA, .ref liveGuestsA, .int guests, .ref chainA, .ref nearA, .ref mateA, .ref degreeA, .ref costA, .ref giversA, .ref giverA, .ref registerA, .ref leftA, .ref orderA])), (registerA, .inl (registerC, registerN, .inl registerF))] := by exact hD.sub [0, 1] (by decide) rfl
    have hK9 : va_K (dC, dI) cls [(registerC, .int)] s := hK.sub [0] rfl
    refine W.widen (k := 0) (n := 0) (Nat.le_of_ble_eq_true rfl) (Nat.le_of_ble_eq_true rfl) ?_
    exact W.iret (v := 0) hx hb hr (fun t ht hW => ⟨⟨0, (), rfl, e_sX2_registerBit_r.symm, ⟨by rw [ht]; exact hP9, va_K.moved hW.alike hK9, hD9⟩⟩, hS.F ht⟩) hS.2.2 dX2_registerBit_21
