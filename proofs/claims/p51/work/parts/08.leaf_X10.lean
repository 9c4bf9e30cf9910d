abbrev cX10_isDigit : ByteArray := prog_12_method_10_code
def yX10_isDigit : MethodName := ⟨RX10, "isDigit", "(I)Z"⟩
abbrev cX10_isLetter : ByteArray := prog_12_method_9_code
def yX10_isLetter : MethodName := ⟨RX10, "isLetter", "(I)Z"⟩
abbrev cX10_kindOfWord : ByteArray := prog_12_method_6_code
def yX10_kindOfWord : MethodName := ⟨RX10, "kindOfWord", "(J)I"⟩
theorem dX10_isDigit_0 : decode cX10_isDigit 0 = .ok (.iload_n 0, 1) := by decide +kernel
theorem dX10_isDigit_1 : decode cX10_isDigit 1 = .ok (.bipush 48, 2) := by decide +kernel
theorem dX10_isDigit_3 : decode cX10_isDigit 3 = .ok (.if_icmp .lt 13, 3) := by decide +kernel
theorem dX10_isDigit_6 : decode cX10_isDigit 6 = .ok (.iload_n 0, 1) := by decide +kernel
theorem dX10_isDigit_7 : decode cX10_isDigit 7 = .ok (.bipush 57, 2) := by decide +kernel
theorem dX10_isDigit_9 : decode cX10_isDigit 9 = .ok (.if_icmp .gt 7, 3) := by decide +kernel
theorem dX10_isDigit_12 : decode cX10_isDigit 12 = .ok (.iconst 1, 1) := by decide +kernel
theorem dX10_isDigit_13 : decode cX10_isDigit 13 = .ok (.goto 4, 3) := by decide +kernel
theorem dX10_isDigit_16 : decode cX10_isDigit 16 = .ok (.iconst 0, 1) := by decide +kernel
theorem dX10_isDigit_17 : decode cX10_isDigit 17 = .ok (.ireturn, 1) := by decide +kernel
theorem dX10_isLetter_0 : decode cX10_isLetter 0 = .ok (.iload_n 0, 1) := by decide +kernel
theorem dX10_isLetter_1 : decode cX10_isLetter 1 = .ok (.bipush 97, 2) := by decide +kernel
theorem dX10_isLetter_3 : decode cX10_isLetter 3 = .ok (.if_icmp .lt 13, 3) := by decide +kernel
theorem dX10_isLetter_6 : decode cX10_isLetter 6 = .ok (.iload_n 0, 1) := by decide +kernel
theorem dX10_isLetter_7 : decode cX10_isLetter 7 = .ok (.bipush 122, 2) := by decide +kernel
theorem dX10_isLetter_9 : decode cX10_isLetter 9 = .ok (.if_icmp .gt 7, 3) := by decide +kernel
theorem dX10_isLetter_12 : decode cX10_isLetter 12 = .ok (.iconst 1, 1) := by decide +kernel
theorem dX10_isLetter_13 : decode cX10_isLetter 13 = .ok (.goto 4, 3) := by decide +kernel
theorem dX10_isLetter_16 : decode cX10_isLetter 16 = .ok (.iconst 0, 1) := by decide +kernel
theorem dX10_isLetter_17 : decode cX10_isLetter 17 = .ok (.ireturn, 1) := by decide +kernel
theorem dX10_kindOfWord_0 : decode cX10_kindOfWord 0 = .ok (.lload_n 0, 1) := by decide +kernel
theorem dX10_kindOfWord_1 : decode cX10_kindOfWord 1 = .ok (.ldc2_w 61, 3) := by decide +kernel
theorem dX10_kindOfWord_4 : decode cX10_kindOfWord 4 = .ok (.lcmp, 1) := by decide +kernel
theorem dX10_kindOfWord_5 : decode cX10_kindOfWord 5 = .ok (.ifCond .ne 5, 3) := by decide +kernel
theorem dX10_kindOfWord_8 : decode cX10_kindOfWord 8 = .ok (.iconst 4, 1) := by decide +kernel
theorem dX10_kindOfWord_9 : decode cX10_kindOfWord 9 = .ok (.ireturn, 1) := by decide +kernel
theorem dX10_kindOfWord_10 : decode cX10_kindOfWord 10 = .ok (.lload_n 0, 1) := by decide +kernel
theorem dX10_kindOfWord_11 : decode cX10_kindOfWord 11 = .ok (.ldc2_w 63, 3) := by decide +kernel
theorem dX10_kindOfWord_14 : decode cX10_kindOfWord 14 = .ok (.lcmp, 1) := by decide +kernel
theorem dX10_kindOfWord_15 : decode cX10_kindOfWord 15 = .ok (.ifCond .ne 5, 3) := by decide +kernel
theorem dX10_kindOfWord_18 : decode cX10_kindOfWord 18 = .ok (.iconst 5, 1) := by decide +kernel
theorem dX10_kindOfWord_19 : decode cX10_kindOfWord 19 = .ok (.ireturn, 1) := by decide +kernel
theorem dX10_kindOfWord_20 : decode cX10_kindOfWord 20 = .ok (.lload_n 0, 1) := by decide +kernel
theorem dX10_kindOfWord_21 : decode cX10_kindOfWord 21 = .ok (.ldc2_w 65, 3) := by decide +kernel
theorem dX10_kindOfWord_24 : decode cX10_kindOfWord 24 = .ok (.lcmp, 1) := by decide +kernel
theorem dX10_kindOfWord_25 : decode cX10_kindOfWord 25 = .ok (.ifCond .ne 6, 3) := by decide +kernel
theorem dX10_kindOfWord_28 : decode cX10_kindOfWord 28 = .ok (.bipush 6, 2) := by decide +kernel
theorem dX10_kindOfWord_30 : decode cX10_kindOfWord 30 = .ok (.ireturn, 1) := by decide +kernel
theorem dX10_kindOfWord_31 : decode cX10_kindOfWord 31 = .ok (.lload_n 0, 1) := by decide +kernel
theorem dX10_kindOfWord_32 : decode cX10_kindOfWord 32 = .ok (.ldc2_w 67, 3) := by decide +kernel
theorem dX10_kindOfWord_35 : decode cX10_kindOfWord 35 = .ok (.lcmp, 1) := by decide +kernel
theorem dX10_kindOfWord_36 : decode cX10_kindOfWord 36 = .ok (.ifCond .ne 6, 3) := by decide +kernel
theorem dX10_kindOfWord_39 : decode cX10_kindOfWord 39 = .ok (.bipush 7, 2) := by decide +kernel
theorem dX10_kindOfWord_41 : decode cX10_kindOfWord 41 = .ok (.ireturn, 1) := by decide +kernel
theorem dX10_kindOfWord_42 : decode cX10_kindOfWord 42 = .ok (.lload_n 0, 1) := by decide +kernel
theorem dX10_kindOfWord_43 : decode cX10_kindOfWord 43 = .ok (.ldc2_w 69, 3) := by decide +kernel
theorem dX10_kindOfWord_46 : decode cX10_kindOfWord 46 = .ok (.lcmp, 1) := by decide +kernel
theorem dX10_kindOfWord_47 : decode cX10_kindOfWord 47 = .ok (.ifCond .ne 6, 3) := by decide +kernel
theorem dX10_kindOfWord_50 : decode cX10_kindOfWord 50 = .ok (.bipush 8, 2) := by decide +kernel
theorem dX10_kindOfWord_52 : decode cX10_kindOfWord 52 = .ok (.ireturn, 1) := by decide +kernel
theorem dX10_kindOfWord_53 : decode cX10_kindOfWord 53 = .ok (.lload_n 0, 1) := by decide +kernel
theorem dX10_kindOfWord_54 : decode cX10_kindOfWord 54 = .ok (.ldc2_w 71, 3) := by decide +kernel
theorem dX10_kindOfWord_57 : decode cX10_kindOfWord 57 = .ok (.lcmp, 1) := by decide +kernel
theorem dX10_kindOfWord_58 : decode cX10_kindOfWord 58 = .ok (.ifCond .ne 6, 3) := by decide +kernel
theorem dX10_kindOfWord_61 : decode cX10_kindOfWord 61 = .ok (.bipush 9, 2) := by decide +kernel
theorem dX10_kindOfWord_63 : decode cX10_kindOfWord 63 = .ok (.ireturn, 1) := by decide +kernel
theorem dX10_kindOfWord_64 : decode cX10_kindOfWord 64 = .ok (.lload_n 0, 1) := by decide +kernel
theorem dX10_kindOfWord_65 : decode cX10_kindOfWord 65 = .ok (.ldc2_w 73, 3) := by decide +kernel
theorem dX10_kindOfWord_68 : decode cX10_kindOfWord 68 = .ok (.lcmp, 1) := by decide +kernel
theorem dX10_kindOfWord_69 : decode cX10_kindOfWord 69 = .ok (.ifCond .ne 6, 3) := by decide +kernel
theorem dX10_kindOfWord_72 : decode cX10_kindOfWord 72 = .ok (.bipush 10, 2) := by decide +kernel
theorem dX10_kindOfWord_74 : decode cX10_kindOfWord 74 = .ok (.ireturn, 1) := by decide +kernel
theorem dX10_kindOfWord_75 : decode cX10_kindOfWord 75 = .ok (.lload_n 0, 1) := by decide +kernel
theorem dX10_kindOfWord_76 : decode cX10_kindOfWord 76 = .ok (.ldc2_w 75, 3) := by decide +kernel
theorem dX10_kindOfWord_79 : decode cX10_kindOfWord 79 = .ok (.lcmp, 1) := by decide +kernel
theorem dX10_kindOfWord_80 : decode cX10_kindOfWord 80 = .ok (.ifCond .ne 8, 3) := by decide +kernel
theorem dX10_kindOfWord_83 : decode cX10_kindOfWord 83 = .ok (.bipush 11, 2) := by decide +kernel
theorem dX10_kindOfWord_85 : decode cX10_kindOfWord 85 = .ok (.goto 4, 3) := by decide +kernel
theorem dX10_kindOfWord_88 : decode cX10_kindOfWord 88 = .ok (.iconst 3, 1) := by decide +kernel
theorem dX10_kindOfWord_89 : decode cX10_kindOfWord 89 = .ok (.ireturn, 1) := by decide +kernel
theorem qw201 : Cond.constantLong RX10 61 (422826041707) ∈ gw := mq_4 (i := 115) rfl rfl
theorem qw202 : Cond.constantLong RX10 63 (7165066978433856869) ∈ gw := mq_4 (i := 116) rfl rfl
theorem qw203 : Cond.constantLong RX10 65 (1701606245) ∈ gw := mq_4 (i := 117) rfl rfl
theorem qw204 : Cond.constantLong RX10 67 (6714734) ∈ gw := mq_4 (i := 118) rfl rfl
theorem qw205 : Cond.constantLong RX10 69 (26982) ∈ gw := mq_4 (i := 119) rfl rfl
theorem qw206 : Cond.constantLong RX10 71 (125780071117422) ∈ gw := mq_4 (i := 120) rfl rfl
theorem qw207 : Cond.constantLong RX10 73 (7758194) ∈ gw := mq_4 (i := 121) rfl rfl
theorem qw208 : Cond.constantLong RX10 75 (512852847717) ∈ gw := mq_4 (i := 122) rfl rfl
def sX10_isDigit_r (p0 : Int32) : Int32 := (if p0 < 48 then 0 else (if 57 < p0 then 0 else 1))
theorem nz_sX10_isDigit_r (p0 : Int32) : narrow .boolean (.int (sX10_isDigit_r p0)) = .int (sX10_isDigit_r p0) := by
  unfold sX10_isDigit_r
  (repeat' split) <;> first | rfl
set_option maxHeartbeats 4000000 in
set_option maxRecDepth 100000 in
theorem kX10_isDigit {zs : Nat × Nat} (l : Launch) (dC : Nat → ClassId) (dI : Nat → Nat → Nat) (p0 : Int32) (sz : Nat)  : Met l yX10_isDigit (wz yX10_isDigit cX10_isDigit 1 (Option.some Jvm.ClassFile.FieldType.boolean)) ({ frames := 0, cells := 0, slots := 0, locals := 0 }) (va_Pc [.int p0] (PRE zs dC dI [] [] sz)) (va_Qi (fun (r : Int32) (_ : Unit) => r = (sX10_isDigit_r p0)) (fun _ t => POST dC dI [] [] (va_A [] sz) t) (va_A [] sz)) 0 0 (va_A [] sz) := by
  refine Met.ofW (cc := cX10_isDigit) (maxL := 1) (ret := (Option.some Jvm.ClassFile.FieldType.boolean)) (by decide) rfl ?_
  intro p e s m args below meth c s₁ B hml hv
  obtain ⟨rfl, hsz, hP, hK, hD0, hE⟩ := hv
  have hx := B.exec
  have hb := B.bytes
  have hr := B.returns
  have hts0 := atoms_spec (ws := wz yX10_isDigit cX10_isDigit 1 (Option.some Jvm.ClassFile.FieldType.boolean)) B.pre
  have hts : ∀ w ∈ gw, w.before _ s = true := fun w h => hts0 w (List.mem_cons_of_mem _ h)
  have hown : s.vm.findClass RX10 = some m.cls := findClass_of_methodNamed B.named
  have hlocks := B.notSynchronized
  subst hsz
  have hD := hD0.self (sz := s.heap.size)
  generalize hAe : va_A [] s.heap.size = A at hD hE ⊢
  have hA : ∀ q : Nat, s.heap.size ≤ q → A q := fun q h => by rw [← hAe]; exact Or.inr h
  have hS : va_S A s.heap s.heap [] := va_S.rf
  have hP : va_P (dC, dI) cls [] s.heap := hP
  have hl := lv_entry ([.int p0]) (n := 1) (Nat.le_of_ble_eq_true rfl)
  rw [lg_entry_eq]
  generalize (lg_sl ([.int p0]) ++ List.replicate (1 - (lg_sl ([.int p0])).length) Slot.unset).toArray = ls at hl ⊢
  have hl : lv_has ls 1 [(0, .int p0)] := hl
  refine lv_iload_n hx hb dX10_isDigit_0 rfl (lv_at hl 0 rfl) ?_
  refine lv_bipush (v := 48) hx hb dX10_isDigit_1 (by decide) ?_
  by_cases hc1 : p0 < 48
  · refine lv_icmp_lt (tgt := 16) hx hb dX10_isDigit_3 (by decide) (fun _ => ?_) (fun c => absurd hc1 c)
    refine lv_iconst (v := 0) hx hb dX10_isDigit_16 (by decide) ?_
    have e_sX10_isDigit_r : sX10_isDigit_r p0 = 0 := by unfold sX10_isDigit_r; rw [if_pos hc1]
    have hP9 : va_P (dC, dI) cls [] s.heap := by exact hP.sub [] rfl
    have hD9 : va_D A [] := by exact hD.sub [] (by decide) rfl
    have hK9 : va_K (dC, dI) cls [] s := hK.sub [] rfl
    refine W.widen (k := 0) (n := 0) (Nat.le_of_ble_eq_true rfl) (Nat.le_of_ble_eq_true rfl) ?_
    exact W.zret (v := 0) hx hb hr (by decide) (fun t ht hW => ⟨⟨0, (), rfl, e_sX10_isDigit_r.symm, ⟨by rw [ht]; exact hP9, va_K.moved hW.alike hK9, hD9⟩⟩, hS.F ht⟩) hS.2.2 dX10_isDigit_17
  · refine lv_icmp_lt (tgt := 16) hx hb dX10_isDigit_3 (by decide) (fun c => absurd c hc1) (fun _ => ?_)
    refine lv_iload_n hx hb dX10_isDigit_6 rfl (lv_at hl 0 rfl) ?_
    refine lv_bipush (v := 57) hx hb dX10_isDigit_7 (by decide) ?_
    by_cases hc2 : 57 < p0
    · refine lv_icmp_gt (tgt := 16) hx hb dX10_isDigit_9 (by decide) (fun _ => ?_) (fun c => absurd hc2 c)
      refine lv_iconst (v := 0) hx hb dX10_isDigit_16 (by decide) ?_
      have e_sX10_isDigit_r : sX10_isDigit_r p0 = 0 := by unfold sX10_isDigit_r; rw [if_neg hc1, if_pos hc2]
      have hP9 : va_P (dC, dI) cls [] s.heap := by exact hP.sub [] rfl
      have hD9 : va_D A [] := by exact hD.sub [] (by decide) rfl
      have hK9 : va_K (dC, dI) cls [] s := hK.sub [] rfl
      refine W.widen (k := 0) (n := 0) (Nat.le_of_ble_eq_true rfl) (Nat.le_of_ble_eq_true rfl) ?_
      exact W.zret (v := 0) hx hb hr (by decide) (fun t ht hW => ⟨⟨0, (), rfl, e_sX10_isDigit_r.symm, ⟨by rw [ht]; exact hP9, va_K.moved hW.alike hK9, hD9⟩⟩, hS.F ht⟩) hS.2.2 dX10_isDigit_17
    · refine lv_icmp_gt (tgt := 16) hx hb dX10_isDigit_9 (by decide) (fun c => absurd c hc2) (fun _ => ?_)
      refine lv_iconst (v := 1) hx hb dX10_isDigit_12 (by decide) ?_
      refine lv_goto (tgt := 17) hx hb dX10_isDigit_13 (by decide) ?_
      have e_sX10_isDigit_r : sX10_isDigit_r p0 = 1 := by unfold sX10_isDigit_r; rw [if_neg hc1, if_neg hc2]
      have hP9 : va_P (dC, dI) cls [] s.heap := by exact hP.sub [] rfl
      have hD9 : va_D A [] := by exact hD.sub [] (by decide) rfl
      have hK9 : va_K (dC, dI) cls [] s := hK.sub [] rfl
      refine W.widen (k := 0) (n := 0) (Nat.le_of_ble_eq_true rfl) (Nat.le_of_ble_eq_true rfl) ?_
      exact W.zret (v := 1) hx hb hr (by decide) (fun t ht hW => ⟨⟨1, (), rfl, e_sX10_isDigit_r.symm, ⟨by rw [ht]; exact hP9, va_K.moved hW.alike hK9, hD9⟩⟩, hS.F ht⟩) hS.2.2 dX10_isDigit_17
def sX10_isLetter_r (p0 : Int32) : Int32 := (if p0 < 97 then 0 else (if 122 < p0 then 0 else 1))
theorem nz_sX10_isLetter_r (p0 : Int32) : narrow .boolean (.int (sX10_isLetter_r p0)) = .int (sX10_isLetter_r p0) := by
  unfold sX10_isLetter_r
  (repeat' split) <;> first | rfl
set_option maxHeartbeats 4000000 in
set_option maxRecDepth 100000 in
theorem kX10_isLetter {zs : Nat × Nat} (l : Launch) (dC : Nat → ClassId) (dI : Nat → Nat → Nat) (p0 : Int32) (sz : Nat)  : Met l yX10_isLetter (wz yX10_isLetter cX10_isLetter 1 (Option.some Jvm.ClassFile.FieldType.boolean)) ({ frames := 0, cells := 0, slots := 0, locals := 0 }) (va_Pc [.int p0] (PRE zs dC dI [] [] sz)) (va_Qi (fun (r : Int32) (_ : Unit) => r = (sX10_isLetter_r p0)) (fun _ t => POST dC dI [] [] (va_A [] sz) t) (va_A [] sz)) 0 0 (va_A [] sz) := by
  refine Met.ofW (cc := cX10_isLetter) (maxL := 1) (ret := (Option.some Jvm.ClassFile.FieldType.boolean)) (by decide) rfl ?_
  intro p e s m args below meth c s₁ B hml hv
  obtain ⟨rfl, hsz, hP, hK, hD0, hE⟩ := hv
  have hx := B.exec
  have hb := B.bytes
  have hr := B.returns
  have hts0 := atoms_spec (ws := wz yX10_isLetter cX10_isLetter 1 (Option.some Jvm.ClassFile.FieldType.boolean)) B.pre
  have hts : ∀ w ∈ gw, w.before _ s = true := fun w h => hts0 w (List.mem_cons_of_mem _ h)
  have hown : s.vm.findClass RX10 = some m.cls := findClass_of_methodNamed B.named
  have hlocks := B.notSynchronized
  subst hsz
  have hD := hD0.self (sz := s.heap.size)
  generalize hAe : va_A [] s.heap.size = A at hD hE ⊢
  have hA : ∀ q : Nat, s.heap.size ≤ q → A q := fun q h => by rw [← hAe]; exact Or.inr h
  have hS : va_S A s.heap s.heap [] := va_S.rf
  have hP : va_P (dC, dI) cls [] s.heap := hP
  have hl := lv_entry ([.int p0]) (n := 1) (Nat.le_of_ble_eq_true rfl)
  rw [lg_entry_eq]
  generalize (lg_sl ([.int p0]) ++ List.replicate (1 - (lg_sl ([.int p0])).length) Slot.unset).toArray = ls at hl ⊢
  have hl : lv_has ls 1 [(0, .int p0)] := hl
  refine lv_iload_n hx hb dX10_isLetter_0 rfl (lv_at hl 0 rfl) ?_
  refine lv_bipush (v := 97) hx hb dX10_isLetter_1 (by decide) ?_
  by_cases hc1 : p0 < 97
  · refine lv_icmp_lt (tgt := 16) hx hb dX10_isLetter_3 (by decide) (fun _ => ?_) (fun c => absurd hc1 c)
    refine lv_iconst (v := 0) hx hb dX10_isLetter_16 (by decide) ?_
    have e_sX10_isLetter_r : sX10_isLetter_r p0 = 0 := by unfold sX10_isLetter_r; rw [if_pos hc1]
    have hP9 : va_P (dC, dI) cls [] s.heap := by exact hP.sub [] rfl
    have hD9 : va_D A [] := by exact hD.sub [] (by decide) rfl
    have hK9 : va_K (dC, dI) cls [] s := hK.sub [] rfl
    refine W.widen (k := 0) (n := 0) (Nat.le_of_ble_eq_true rfl) (Nat.le_of_ble_eq_true rfl) ?_
    exact W.zret (v := 0) hx hb hr (by decide) (fun t ht hW => ⟨⟨0, (), rfl, e_sX10_isLetter_r.symm, ⟨by rw [ht]; exact hP9, va_K.moved hW.alike hK9, hD9⟩⟩, hS.F ht⟩) hS.2.2 dX10_isLetter_17
  · refine lv_icmp_lt (tgt := 16) hx hb dX10_isLetter_3 (by decide) (fun c => absurd c hc1) (fun _ => ?_)
    refine lv_iload_n hx hb dX10_isLetter_6 rfl (lv_at hl 0 rfl) ?_
    refine lv_bipush (v := 122) hx hb dX10_isLetter_7 (by decide) ?_
    by_cases hc2 : 122 < p0
    · refine lv_icmp_gt (tgt := 16) hx hb dX10_isLetter_9 (by decide) (fun _ => ?_) (fun c => absurd hc2 c)
      refine lv_iconst (v := 0) hx hb dX10_isLetter_16 (by decide) ?_
      have e_sX10_isLetter_r : sX10_isLetter_r p0 = 0 := by unfold sX10_isLetter_r; rw [if_neg hc1, if_pos hc2]
      have hP9 : va_P (dC, dI) cls [] s.heap := by exact hP.sub [] rfl
      have hD9 : va_D A [] := by exact hD.sub [] (by decide) rfl
      have hK9 : va_K (dC, dI) cls [] s := hK.sub [] rfl
      refine W.widen (k := 0) (n := 0) (Nat.le_of_ble_eq_true rfl) (Nat.le_of_ble_eq_true rfl) ?_
      exact W.zret (v := 0) hx hb hr (by decide) (fun t ht hW => ⟨⟨0, (), rfl, e_sX10_isLetter_r.symm, ⟨by rw [ht]; exact hP9, va_K.moved hW.alike hK9, hD9⟩⟩, hS.F ht⟩) hS.2.2 dX10_isLetter_17
    · refine lv_icmp_gt (tgt := 16) hx hb dX10_isLetter_9 (by decide) (fun c => absurd c hc2) (fun _ => ?_)
      refine lv_iconst (v := 1) hx hb dX10_isLetter_12 (by decide) ?_
      refine lv_goto (tgt := 17) hx hb dX10_isLetter_13 (by decide) ?_
      have e_sX10_isLetter_r : sX10_isLetter_r p0 = 1 := by unfold sX10_isLetter_r; rw [if_neg hc1, if_neg hc2]
      have hP9 : va_P (dC, dI) cls [] s.heap := by exact hP.sub [] rfl
      have hD9 : va_D A [] := by exact hD.sub [] (by decide) rfl
      have hK9 : va_K (dC, dI) cls [] s := hK.sub [] rfl
      refine W.widen (k := 0) (n := 0) (Nat.le_of_ble_eq_true rfl) (Nat.le_of_ble_eq_true rfl) ?_
      exact W.zret (v := 1) hx hb hr (by decide) (fun t ht hW => ⟨⟨1, (), rfl, e_sX10_isLetter_r.symm, ⟨by rw [ht]; exact hP9, va_K.moved hW.alike hK9, hD9⟩⟩, hS.F ht⟩) hS.2.2 dX10_isLetter_17
def sX10_kindOfWord_r (p0 : Int64) : Int32 := (if (lg_cmp p0 422826041707) = 0 then 4 else (if (lg_cmp p0 7165066978433856869) = 0 then 5 else (if (lg_cmp p0 1701606245) = 0 then 6 else (if (lg_cmp p0 6714734) = 0 then 7 else (if (lg_cmp p0 26982) = 0 then 8 else (if (lg_cmp p0 125780071117422) = 0 then 9 else (if (lg_cmp p0 7758194) = 0 then 10 else (if (lg_cmp p0 512852847717) = 0 then 11 else 3))))))))
set_option maxHeartbeats 4000000 in
set_option maxRecDepth 100000 in
theorem kX10_kindOfWord {zs : Nat × Nat} (l : Launch) (dC : Nat → ClassId) (dI : Nat → Nat → Nat) (p0 : Int64) (sz : Nat)  : Met l yX10_kindOfWord (wz yX10_kindOfWord cX10_kindOfWord 2 (Option.some Jvm.ClassFile.FieldType.int)) ({ frames := 0, cells := 0, slots := 0, locals := 0 }) (va_Pc [.long p0] (PRE zs dC dI [] [] sz)) (va_Qi (fun (r : Int32) (_ : Unit) => r = (sX10_kindOfWord_r p0)) (fun _ t => POST dC dI [] [] (va_A [] sz) t) (va_A [] sz)) 0 0 (va_A [] sz) := by
  refine Met.ofW (cc := cX10_kindOfWord) (maxL := 2) (ret := (Option.some Jvm.ClassFile.FieldType.int)) (by decide) rfl ?_
  intro p e s m args below meth c s₁ B hml hv
  obtain ⟨rfl, hsz, hP, hK, hD0, hE⟩ := hv
  have hx := B.exec
  have hb := B.bytes
  have hr := B.returns
  have hts0 := atoms_spec (ws := wz yX10_kindOfWord cX10_kindOfWord 2 (Option.some Jvm.ClassFile.FieldType.int)) B.pre
  have hts : ∀ w ∈ gw, w.before _ s = true := fun w h => hts0 w (List.mem_cons_of_mem _ h)
  have hown : s.vm.findClass RX10 = some m.cls := findClass_of_methodNamed B.named
  have hlocks := B.notSynchronized
  subst hsz
  have hD := hD0.self (sz := s.heap.size)
  generalize hAe : va_A [] s.heap.size = A at hD hE ⊢
  have hA : ∀ q : Nat, s.heap.size ≤ q → A q := fun q h => by rw [← hAe]; exact Or.inr h
  have hS : va_S A s.heap s.heap [] := va_S.rf
  have hP : va_P (dC, dI) cls [] s.heap := hP
  have hl := lv_entry ([.long p0]) (n := 2) (Nat.le_of_ble_eq_true rfl)
  rw [lg_entry_eq]
  generalize (lg_sl ([.long p0]) ++ List.replicate (2 - (lg_sl ([.long p0])).length) Slot.unset).toArray = ls at hl ⊢
  have hl : lv_has ls 2 [(0, .long p0)] := hl
  refine lv_lload_n hx hb dX10_kindOfWord_0 rfl (lv_at hl 0 rfl) ?_
  refine lv_ldc2 (v := 422826041707) hx hb hown (hts _ qw201) dX10_kindOfWord_1 ?_
  refine W.lcmp hx hb dX10_kindOfWord_4 ?_
  by_cases hc1 : (lg_cmp p0 422826041707) = 0
  · refine lv_if_ne (tgt := 10) hx hb dX10_kindOfWord_5 (by decide) (fun c => absurd hc1 c) (fun _ => ?_)
    refine lv_iconst (v := 4) hx hb dX10_kindOfWord_8 (by decide) ?_
    have e_sX10_kindOfWord_r : sX10_kindOfWord_r p0 = 4 := by unfold sX10_kindOfWord_r; rw [if_pos hc1]
    have hP9 : va_P (dC, dI) cls [] s.heap := by exact hP.sub [] rfl
    have hD9 : va_D A [] := by exact hD.sub [] (by decide) rfl
    have hK9 : va_K (dC, dI) cls [] s := hK.sub [] rfl
    refine W.widen (k := 0) (n := 0) (Nat.le_of_ble_eq_true rfl) (Nat.le_of_ble_eq_true rfl) ?_
    exact W.iret (v := 4) hx hb hr (fun t ht hW => ⟨⟨4, (), rfl, e_sX10_kindOfWord_r.symm, ⟨by rw [ht]; exact hP9, va_K.moved hW.alike hK9, hD9⟩⟩, hS.F ht⟩) hS.2.2 dX10_kindOfWord_9
  · refine lv_if_ne (tgt := 10) hx hb dX10_kindOfWord_5 (by decide) (fun _ => ?_) (fun c => absurd c hc1)
    refine lv_lload_n hx hb dX10_kindOfWord_10 rfl (lv_at hl 0 rfl) ?_
    refine lv_ldc2 (v := 7165066978433856869) hx hb hown (hts _ qw202) dX10_kindOfWord_11 ?_
    refine W.lcmp hx hb dX10_kindOfWord_14 ?_
    by_cases hc2 : (lg_cmp p0 7165066978433856869) = 0
    · refine lv_if_ne (tgt := 20) hx hb dX10_kindOfWord_15 (by decide) (fun c => absurd hc2 c) (fun _ => ?_)
      refine lv_iconst (v := 5) hx hb dX10_kindOfWord_18 (by decide) ?_
      have e_sX10_kindOfWord_r : sX10_kindOfWord_r p0 = 5 := by unfold sX10_kindOfWord_r; rw [if_neg hc1, if_pos hc2]
      have hP9 : va_P (dC, dI) cls [] s.heap := by exact hP.sub [] rfl
      have hD9 : va_D A [] := by exact hD.sub [] (by decide) rfl
      have hK9 : va_K (dC, dI) cls [] s := hK.sub [] rfl
      refine W.widen (k := 0) (n := 0) (Nat.le_of_ble_eq_true rfl) (Nat.le_of_ble_eq_true rfl) ?_
      exact W.iret (v := 5) hx hb hr (fun t ht hW => ⟨⟨5, (), rfl, e_sX10_kindOfWord_r.symm, ⟨by rw [ht]; exact hP9, va_K.moved hW.alike hK9, hD9⟩⟩, hS.F ht⟩) hS.2.2 dX10_kindOfWord_19
    · refine lv_if_ne (tgt := 20) hx hb dX10_kindOfWord_15 (by decide) (fun _ => ?_) (fun c => absurd c hc2)
      refine lv_lload_n hx hb dX10_kindOfWord_20 rfl (lv_at hl 0 rfl) ?_
      refine lv_ldc2 (v := 1701606245) hx hb hown (hts _ qw203) dX10_kindOfWord_21 ?_
      refine W.lcmp hx hb dX10_kindOfWord_24 ?_
      by_cases hc3 : (lg_cmp p0 1701606245) = 0
      · refine lv_if_ne (tgt := 31) hx hb dX10_kindOfWord_25 (by decide) (fun c => absurd hc3 c) (fun _ => ?_)
        refine lv_bipush (v := 6) hx hb dX10_kindOfWord_28 (by decide) ?_
        have e_sX10_kindOfWord_r : sX10_kindOfWord_r p0 = 6 := by unfold sX10_kindOfWord_r; rw [if_neg hc1, if_neg hc2, if_pos hc3]
        have hP9 : va_P (dC, dI) cls [] s.heap := by exact hP.sub [] rfl
        have hD9 : va_D A [] := by exact hD.sub [] (by decide) rfl
        have hK9 : va_K (dC, dI) cls [] s := hK.sub [] rfl
        refine W.widen (k := 0) (n := 0) (Nat.le_of_ble_eq_true rfl) (Nat.le_of_ble_eq_true rfl) ?_
        exact W.iret (v := 6) hx hb hr (fun t ht hW => ⟨⟨6, (), rfl, e_sX10_kindOfWord_r.symm, ⟨by rw [ht]; exact hP9, va_K.moved hW.alike hK9, hD9⟩⟩, hS.F ht⟩) hS.2.2 dX10_kindOfWord_30
      · refine lv_if_ne (tgt := 31) hx hb dX10_kindOfWord_25 (by decide) (fun _ => ?_) (fun c => absurd c hc3)
        refine lv_lload_n hx hb dX10_kindOfWord_31 rfl (lv_at hl 0 rfl) ?_
        refine lv_ldc2 (v := 6714734) hx hb hown (hts _ qw204) dX10_kindOfWord_32 ?_
        refine W.lcmp hx hb dX10_kindOfWord_35 ?_
        by_cases hc4 : (lg_cmp p0 6714734) = 0
        · refine lv_if_ne (tgt := 42) hx hb dX10_kindOfWord_36 (by decide) (fun c => absurd hc4 c) (fun _ => ?_)
          refine lv_bipush (v := 7) hx hb dX10_kindOfWord_39 (by decide) ?_
          have e_sX10_kindOfWord_r : sX10_kindOfWord_r p0 = 7 := by unfold sX10_kindOfWord_r; rw [if_neg hc1, if_neg hc2, if_neg hc3, if_pos hc4]
          have hP9 : va_P (dC, dI) cls [] s.heap := by exact hP.sub [] rfl
          have hD9 : va_D A [] := by exact hD.sub [] (by decide) rfl
          have hK9 : va_K (dC, dI) cls [] s := hK.sub [] rfl
          refine W.widen (k := 0) (n := 0) (Nat.le_of_ble_eq_true rfl) (Nat.le_of_ble_eq_true rfl) ?_
          exact W.iret (v := 7) hx hb hr (fun t ht hW => ⟨⟨7, (), rfl, e_sX10_kindOfWord_r.symm, ⟨by rw [ht]; exact hP9, va_K.moved hW.alike hK9, hD9⟩⟩, hS.F ht⟩) hS.2.2 dX10_kindOfWord_41
        · refine lv_if_ne (tgt := 42) hx hb dX10_kindOfWord_36 (by decide) (fun _ => ?_) (fun c => absurd c hc4)
          refine lv_lload_n hx hb dX10_kindOfWord_42 rfl (lv_at hl 0 rfl) ?_
          refine lv_ldc2 (v := 26982) hx hb hown (hts _ qw205) dX10_kindOfWord_43 ?_
          refine W.lcmp hx hb dX10_kindOfWord_46 ?_
          by_cases hc5 : (lg_cmp p0 26982) = 0
          · refine lv_if_ne (tgt := 53) hx hb dX10_kindOfWord_47 (by decide) (fun c => absurd hc5 c) (fun _ => ?_)
            refine lv_bipush (v := 8) hx hb dX10_kindOfWord_50 (by decide) ?_
            have e_sX10_kindOfWord_r : sX10_kindOfWord_r p0 = 8 := by unfold sX10_kindOfWord_r; rw [if_neg hc1, if_neg hc2, if_neg hc3, if_neg hc4, if_pos hc5]
            have hP9 : va_P (dC, dI) cls [] s.heap := by exact hP.sub [] rfl
            have hD9 : va_D A [] := by exact hD.sub [] (by decide) rfl
            have hK9 : va_K (dC, dI) cls [] s := hK.sub [] rfl
            refine W.widen (k := 0) (n := 0) (Nat.le_of_ble_eq_true rfl) (Nat.le_of_ble_eq_true rfl) ?_
            exact W.iret (v := 8) hx hb hr (fun t ht hW => ⟨⟨8, (), rfl, e_sX10_kindOfWord_r.symm, ⟨by rw [ht]; exact hP9, va_K.moved hW.alike hK9, hD9⟩⟩, hS.F ht⟩) hS.2.2 dX10_kindOfWord_52
          · refine lv_if_ne (tgt := 53) hx hb dX10_kindOfWord_47 (by decide) (fun _ => ?_) (fun c => absurd c hc5)
            refine lv_lload_n hx hb dX10_kindOfWord_53 rfl (lv_at hl 0 rfl) ?_
            refine lv_ldc2 (v := 125780071117422) hx hb hown (hts _ qw206) dX10_kindOfWord_54 ?_
            refine W.lcmp hx hb dX10_kindOfWord_57 ?_
            by_cases hc6 : (lg_cmp p0 125780071117422) = 0
            · refine lv_if_ne (tgt := 64) hx hb dX10_kindOfWord_58 (by decide) (fun c => absurd hc6 c) (fun _ => ?_)
              refine lv_bipush (v := 9) hx hb dX10_kindOfWord_61 (by decide) ?_
              have e_sX10_kindOfWord_r : sX10_kindOfWord_r p0 = 9 := by unfold sX10_kindOfWord_r; rw [if_neg hc1, if_neg hc2, if_neg hc3, if_neg hc4, if_neg hc5, if_pos hc6]
              have hP9 : va_P (dC, dI) cls [] s.heap := by exact hP.sub [] rfl
              have hD9 : va_D A [] := by exact hD.sub [] (by decide) rfl
              have hK9 : va_K (dC, dI) cls [] s := hK.sub [] rfl
              refine W.widen (k := 0) (n := 0) (Nat.le_of_ble_eq_true rfl) (Nat.le_of_ble_eq_true rfl) ?_
              exact W.iret (v := 9) hx hb hr (fun t ht hW => ⟨⟨9, (), rfl, e_sX10_kindOfWord_r.symm, ⟨by rw [ht]; exact hP9, va_K.moved hW.alike hK9, hD9⟩⟩, hS.F ht⟩) hS.2.2 dX10_kindOfWord_63
            · refine lv_if_ne (tgt := 64) hx hb dX10_kindOfWord_58 (by decide) (fun _ => ?_) (fun c => absurd c hc6)
              refine lv_lload_n hx hb dX10_kindOfWord_64 rfl (lv_at hl 0 rfl) ?_
              refine lv_ldc2 (v := 7758194) hx hb hown (hts _ qw207) dX10_kindOfWord_65 ?_
              refine W.lcmp hx hb dX10_kindOfWord_68 ?_
              by_cases hc7 : (lg_cmp p0 7758194) = 0
              · refine lv_if_ne (tgt := 75) hx hb dX10_kindOfWord_69 (by decide) (fun c => absurd hc7 c) (fun _ => ?_)
                refine lv_bipush (v := 10) hx hb dX10_kindOfWord_72 (by decide) ?_
                have e_sX10_kindOfWord_r : sX10_kindOfWord_r p0 = 10 := by unfold sX10_kindOfWord_r; rw [if_neg hc1, if_neg hc2, if_neg hc3, if_neg hc4, if_neg hc5, if_neg hc6, if_pos hc7]
                have hP9 : va_P (dC, dI) cls [] s.heap := by exact hP.sub [] rfl
                have hD9 : va_D A [] := by exact hD.sub [] (by decide) rfl
                have hK9 : va_K (dC, dI) cls [] s := hK.sub [] rfl
                refine W.widen (k := 0) (n := 0) (Nat.le_of_ble_eq_true rfl) (Nat.le_of_ble_eq_true rfl) ?_
                exact W.iret (v := 10) hx hb hr (fun t ht hW => ⟨⟨10, (), rfl, e_sX10_kindOfWord_r.symm, ⟨by rw [ht]; exact hP9, va_K.moved hW.alike hK9, hD9⟩⟩, hS.F ht⟩) hS.2.2 dX10_kindOfWord_74
              · refine lv_if_ne (tgt := 75) hx hb dX10_kindOfWord_69 (by decide) (fun _ => ?_) (fun c => absurd c hc7)
                refine lv_lload_n hx hb dX10_kindOfWord_75 rfl (lv_at hl 0 rfl) ?_
                refine lv_ldc2 (v := 512852847717) hx hb hown (hts _ qw208) dX10_kindOfWord_76 ?_
                refine W.lcmp hx hb dX10_kindOfWord_79 ?_
                by_cases hc8 : (lg_cmp p0 512852847717) = 0
                · refine lv_if_ne (tgt := 88) hx hb dX10_kindOfWord_80 (by decide) (fun c => absurd hc8 c) (fun _ => ?_)
                  refine lv_bipush (v := 11) hx hb dX10_kindOfWord_83 (by decide) ?_
                  refine lv_goto (tgt := 89) hx hb dX10_kindOfWord_85 (by decide) ?_
                  have e_sX10_kindOfWord_r : sX10_kindOfWord_r p0 = 11 := by unfold sX10_kindOfWord_r; rw [if_neg hc1, if_neg hc2, if_neg hc3, if_neg hc4, if_neg hc5, if_neg hc6, if_neg hc7, if_pos hc8]
                  have hP9 : va_P (dC, dI) cls [] s.heap := by exact hP.sub [] rfl
                  have hD9 : va_D A [] := by exact hD.sub [] (by decide) rfl
                  have hK9 : va_K (dC, dI) cls [] s := hK.sub [] rfl
                  refine W.widen (k := 0) (n := 0) (Nat.le_of_ble_eq_true rfl) (Nat.le_of_ble_eq_true rfl) ?_
                  exact W.iret (v := 11) hx hb hr (fun t ht hW => ⟨⟨11, (), rfl, e_sX10_kindOfWord_r.symm, ⟨by rw [ht]; exact hP9, va_K.moved hW.alike hK9, hD9⟩⟩, hS.F ht⟩) hS.2.2 dX10_kindOfWord_89
                · refine lv_if_ne (tgt := 88) hx hb dX10_kindOfWord_80 (by decide) (fun _ => ?_) (fun c => absurd c hc8)
                  refine lv_iconst (v := 3) hx hb dX10_kindOfWord_88 (by decide) ?_
                  have e_sX10_kindOfWord_r : sX10_kindOfWord_r p0 = 3 := by unfold sX10_kindOfWord_r; rw [if_neg hc1, if_neg hc2, if_neg hc3, if_neg hc4, if_neg hc5, if_neg hc6, if_neg hc7, if_neg hc8]
                  have hP9 : va_P (dC, dI) cls [] s.heap := by exact hP.sub [] rfl
                  have hD9 : va_D A [] := by exact hD.sub [] (by decide) rfl
                  have hK9 : va_K (dC, dI) cls [] s := hK.sub [] rfl
                  refine W.widen (k := 0) (n := 0) (Nat.le_of_ble_eq_true rfl) (Nat.le_of_ble_eq_true rfl) ?_
                  exact W.iret (v := 3) hx hb hr (fun t ht hW => ⟨⟨3, (), rfl, e_sX10_kindOfWord_r.symm, ⟨by rw [ht]; exact hP9, va_K.moved hW.alike hK9, hD9⟩⟩, hS.F ht⟩) hS.2.2 dX10_kindOfWord_89
