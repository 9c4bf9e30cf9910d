abbrev cX11_meanCode : ByteArray := prog_1_method_48_code
def yX11_meanCode : MethodName := ⟨RX11, "meanCode", "()D"⟩
abbrev cX11_digest : ByteArray := prog_1_method_49_code
def yX11_digest : MethodName := ⟨RX11, "digest", "()J"⟩
theorem dX11_digest_0 : decode cX11_digest 0 = .ok (.ldc2_w 321, 3) := by decide +kernel
theorem dX11_digest_3 : decode cX11_digest 3 = .ok (.lstore_n 1, 1) := by decide +kernel
theorem dX11_digest_4 : decode cX11_digest 4 = .ok (.lload_n 1, 1) := by decide +kernel
theorem dX11_digest_5 : decode cX11_digest 5 = .ok (.ldc2_w 323, 3) := by decide +kernel
theorem dX11_digest_8 : decode cX11_digest 8 = .ok (.lmul, 1) := by decide +kernel
theorem dX11_digest_9 : decode cX11_digest 9 = .ok (.aload_n 0, 1) := by decide +kernel
theorem dX11_digest_10 : decode cX11_digest 10 = .ok (.getfield 61, 3) := by decide +kernel
theorem dX11_digest_13 : decode cX11_digest 13 = .ok (.getfield 112, 3) := by decide +kernel
theorem dX11_digest_16 : decode cX11_digest 16 = .ok (.i2l, 1) := by decide +kernel
theorem dX11_digest_17 : decode cX11_digest 17 = .ok (.ladd, 1) := by decide +kernel
theorem dX11_digest_18 : decode cX11_digest 18 = .ok (.lstore_n 1, 1) := by decide +kernel
theorem dX11_digest_19 : decode cX11_digest 19 = .ok (.lload_n 1, 1) := by decide +kernel
theorem dX11_digest_20 : decode cX11_digest 20 = .ok (.ldc2_w 323, 3) := by decide +kernel
theorem dX11_digest_23 : decode cX11_digest 23 = .ok (.lmul, 1) := by decide +kernel
theorem dX11_digest_24 : decode cX11_digest 24 = .ok (.aload_n 0, 1) := by decide +kernel
theorem dX11_digest_25 : decode cX11_digest 25 = .ok (.getfield 82, 3) := by decide +kernel
theorem dX11_digest_28 : decode cX11_digest 28 = .ok (.i2l, 1) := by decide +kernel
theorem dX11_digest_29 : decode cX11_digest 29 = .ok (.ladd, 1) := by decide +kernel
theorem dX11_digest_30 : decode cX11_digest 30 = .ok (.lstore_n 1, 1) := by decide +kernel
theorem dX11_digest_31 : decode cX11_digest 31 = .ok (.lload_n 1, 1) := by decide +kernel
theorem dX11_digest_32 : decode cX11_digest 32 = .ok (.ldc2_w 323, 3) := by decide +kernel
theorem dX11_digest_35 : decode cX11_digest 35 = .ok (.lmul, 1) := by decide +kernel
theorem dX11_digest_36 : decode cX11_digest 36 = .ok (.aload_n 0, 1) := by decide +kernel
theorem dX11_digest_37 : decode cX11_digest 37 = .ok (.getfield 73, 3) := by decide +kernel
theorem dX11_digest_40 : decode cX11_digest 40 = .ok (.getfield 295, 3) := by decide +kernel
theorem dX11_digest_43 : decode cX11_digest 43 = .ok (.i2l, 1) := by decide +kernel
theorem dX11_digest_44 : decode cX11_digest 44 = .ok (.ladd, 1) := by decide +kernel
theorem dX11_digest_45 : decode cX11_digest 45 = .ok (.lstore_n 1, 1) := by decide +kernel
theorem dX11_digest_46 : decode cX11_digest 46 = .ok (.lload_n 1, 1) := by decide +kernel
theorem dX11_digest_47 : decode cX11_digest 47 = .ok (.ldc2_w 323, 3) := by decide +kernel
theorem dX11_digest_50 : decode cX11_digest 50 = .ok (.lmul, 1) := by decide +kernel
theorem dX11_digest_51 : decode cX11_digest 51 = .ok (.aload_n 0, 1) := by decide +kernel
theorem dX11_digest_52 : decode cX11_digest 52 = .ok (.getfield 73, 3) := by decide +kernel
theorem dX11_digest_55 : decode cX11_digest 55 = .ok (.getfield 298, 3) := by decide +kernel
theorem dX11_digest_58 : decode cX11_digest 58 = .ok (.i2l, 1) := by decide +kernel
theorem dX11_digest_59 : decode cX11_digest 59 = .ok (.ladd, 1) := by decide +kernel
theorem dX11_digest_60 : decode cX11_digest 60 = .ok (.lstore_n 1, 1) := by decide +kernel
theorem dX11_digest_61 : decode cX11_digest 61 = .ok (.lload_n 1, 1) := by decide +kernel
theorem dX11_digest_62 : decode cX11_digest 62 = .ok (.ldc2_w 323, 3) := by decide +kernel
theorem dX11_digest_65 : decode cX11_digest 65 = .ok (.lmul, 1) := by decide +kernel
theorem dX11_digest_66 : decode cX11_digest 66 = .ok (.aload_n 0, 1) := by decide +kernel
theorem dX11_digest_67 : decode cX11_digest 67 = .ok (.getfield 73, 3) := by decide +kernel
theorem dX11_digest_70 : decode cX11_digest 70 = .ok (.getfield 301, 3) := by decide +kernel
theorem dX11_digest_73 : decode cX11_digest 73 = .ok (.i2l, 1) := by decide +kernel
theorem dX11_digest_74 : decode cX11_digest 74 = .ok (.ladd, 1) := by decide +kernel
theorem dX11_digest_75 : decode cX11_digest 75 = .ok (.lstore_n 1, 1) := by decide +kernel
theorem dX11_digest_76 : decode cX11_digest 76 = .ok (.iconst 0, 1) := by decide +kernel
theorem dX11_digest_77 : decode cX11_digest 77 = .ok (.istore_n 3, 1) := by decide +kernel
theorem dX11_digest_78 : decode cX11_digest 78 = .ok (.iload_n 3, 1) := by decide +kernel
theorem dX11_digest_79 : decode cX11_digest 79 = .ok (.bipush 16, 2) := by decide +kernel
theorem dX11_digest_81 : decode cX11_digest 81 = .ok (.if_icmp .ge 26, 3) := by decide +kernel
theorem dX11_digest_84 : decode cX11_digest 84 = .ok (.lload_n 1, 1) := by decide +kernel
theorem dX11_digest_85 : decode cX11_digest 85 = .ok (.ldc2_w 323, 3) := by decide +kernel
theorem dX11_digest_88 : decode cX11_digest 88 = .ok (.lmul, 1) := by decide +kernel
theorem dX11_digest_89 : decode cX11_digest 89 = .ok (.aload_n 0, 1) := by decide +kernel
theorem dX11_digest_90 : decode cX11_digest 90 = .ok (.getfield 73, 3) := by decide +kernel
theorem dX11_digest_93 : decode cX11_digest 93 = .ok (.getfield 303, 3) := by decide +kernel
theorem dX11_digest_96 : decode cX11_digest 96 = .ok (.iload_n 3, 1) := by decide +kernel
theorem dX11_digest_97 : decode cX11_digest 97 = .ok (.iaload, 1) := by decide +kernel
theorem dX11_digest_98 : decode cX11_digest 98 = .ok (.i2l, 1) := by decide +kernel
theorem dX11_digest_99 : decode cX11_digest 99 = .ok (.ladd, 1) := by decide +kernel
theorem dX11_digest_100 : decode cX11_digest 100 = .ok (.lstore_n 1, 1) := by decide +kernel
theorem dX11_digest_101 : decode cX11_digest 101 = .ok (.iinc 3 1, 3) := by decide +kernel
theorem dX11_digest_104 : decode cX11_digest 104 = .ok (.goto (-26), 3) := by decide +kernel
theorem dX11_digest_107 : decode cX11_digest 107 = .ok (.iconst 0, 1) := by decide +kernel
theorem dX11_digest_108 : decode cX11_digest 108 = .ok (.istore_n 3, 1) := by decide +kernel
theorem dX11_digest_109 : decode cX11_digest 109 = .ok (.iload_n 3, 1) := by decide +kernel
theorem dX11_digest_110 : decode cX11_digest 110 = .ok (.aload_n 0, 1) := by decide +kernel
theorem dX11_digest_111 : decode cX11_digest 111 = .ok (.getfield 61, 3) := by decide +kernel
theorem dX11_digest_114 : decode cX11_digest 114 = .ok (.getfield 112, 3) := by decide +kernel
theorem dX11_digest_117 : decode cX11_digest 117 = .ok (.if_icmp .ge 16, 3) := by decide +kernel
theorem dX11_digest_133 : decode cX11_digest 133 = .ok (.lload_n 1, 1) := by decide +kernel
theorem dX11_digest_134 : decode cX11_digest 134 = .ok (.lreturn, 1) := by decide +kernel
theorem dX11_meanCode_0 : decode cX11_meanCode 0 = .ok (.aload_n 0, 1) := by decide +kernel
theorem dX11_meanCode_1 : decode cX11_meanCode 1 = .ok (.getfield 54, 3) := by decide +kernel
theorem dX11_meanCode_4 : decode cX11_meanCode 4 = .ok (.getfield 138, 3) := by decide +kernel
theorem dX11_meanCode_7 : decode cX11_meanCode 7 = .ok (.ifCond .eq 13, 3) := by decide +kernel
theorem dX11_meanCode_20 : decode cX11_meanCode 20 = .ok (.dconst 0, 1) := by decide +kernel
theorem dX11_meanCode_21 : decode cX11_meanCode 21 = .ok (.dreturn, 1) := by decide +kernel
theorem qw267 : Cond.constantLong RX11 321 (58009) ∈ gw := mq_8 (i := 198) rfl rfl
theorem qw268 : Cond.constantLong RX11 323 (31) ∈ gw := mq_8 (i := 199) rfl rfl
set_option maxHeartbeats 4000000 in
set_option maxRecDepth 100000 in
theorem kX11_meanCode {zs : Nat × Nat} (l : Launch) (dC : Nat → ClassId) (dI : Nat → Nat → Nat) (gx : Nat) (gq1 : Nat) (gq4 : Nat) (gq13 : Nat) (gq136 : Nat) (gq137 : Nat) (gq138 : Nat) (gq139 : Nat) (gq140 : Nat) (gq141 : Nat) (gq142 : Nat) (gq143 : Nat) (gq144 : Nat) (gq145 : Nat) (gq146 : Nat) (gq147 : Nat) (gq148 : Nat) (gq149 : Nat) (gq150 : Nat) (gq161 : Nat) (gq172 : Nat) (gq184 : Nat) (sz : Nat)  : Met l yX11_meanCode (wz yX11_meanCode cX11_meanCode 3 (Option.some Jvm.ClassFile.FieldType.double)) ({ frames := 0, cells := 0, slots := 0, locals := 0 }) (va_Pc [.ref gx] (PRE zs dC dI [(gx, .inr (11, [.ref gq1, .ref gq4, .ref gq13, .ref gq136, .ref gq137, .ref gq138, .ref gq172, .ref gq184, .ref gq150, .ref gq161, .int (-1)])), (gq138, .inr (8, [.ref gq139, .ref gq140, .ref gq141, .ref gq142, .ref gq143, .int 0, .ref gq144, .int 0, .int 0, .int 0, .int 0, .int 0, .ref gq145, .ref gq146, .ref gq147, .ref gq148, .ref gq149]))] [] sz)) (va_Qd (fun (r : UInt64) (_ : Unit) => r = FP.dconst0) (fun _ t => POST dC dI [] [] (va_A [(gx, .inr (11, [.ref gq1, .ref gq4, .ref gq13, .ref gq136, .ref gq137, .ref gq138, .ref gq172, .ref gq184, .ref gq150, .ref gq161, .int (-1)])), (gq138, .inr (8, [.ref gq139, .ref gq140, .ref gq141, .ref gq142, .ref gq143, .int 0, .ref gq144, .int 0, .int 0, .int 0, .int 0, .int 0, .ref gq145, .ref gq146, .ref gq147, .ref gq148, .ref gq149]))] sz) t) (va_A [(gx, .inr (11, [.ref gq1, .ref gq4, .ref gq13, .ref gq136, .ref gq137, .ref gq138, .ref gq172, .ref gq184, .ref gq150, .ref gq161, .int (-1)])), (gq138, .inr (8, [.ref gq139, .ref gq140, .ref gq141, .ref gq142, .ref gq143, .int 0, .ref gq144, .int 0, .int 0, .int 0, .int 0, .int 0, .ref gq145, .ref gq146, .ref gq147, .ref gq148, .ref gq149]))] sz)) 0 0 (va_A [(gx, .inr (11, [.ref gq1, .ref gq4, .ref gq13, .ref gq136, .ref gq137, .ref gq138, .ref gq172, .ref gq184, .ref gq150, .ref gq161, .int (-1)])), (gq138, .inr (8, [.ref gq139, .ref gq140, .ref gq141, .ref gq142, .ref gq143, .int 0, .ref gq144, .int 0, .int 0, .int 0, .int 0, .int 0, .ref gq145, .ref gq146, .ref gq147, .ref gq148, .ref gq149]))] sz) := by
  refine Met.ofW (cc := cX11_meanCode) (maxL := 3) (ret := (Option.some Jvm.ClassFile.FieldType.double)) (by decide) rfl ?_
  intro p e s m args below meth c s₁ B hml hv
  obtain ⟨rfl, hsz, hP, hK, hD0, hE⟩ := hv
  have hx := B.exec
  have hb := B.bytes
  have hr := B.returns
  have hts0 := atoms_spec (ws := wz yX11_meanCode cX11_meanCode 3 (Option.some Jvm.ClassFile.FieldType.double)) B.pre
  have hts : ∀ w ∈ gw, w.before _ s = true := fun w h => hts0 w (List.mem_cons_of_mem _ h)
  have hown : s.vm.findClass RX11 = some m.cls := findClass_of_methodNamed B.named
  have hlocks := B.notSynchronized
  subst hsz
  have hD := hD0.self (sz := s.heap.size)
  generalize hAe : va_A [(gx, .inr (11, [.ref gq1, .ref gq4, .ref gq13, .ref gq136, .ref gq137, .ref gq138, .ref gq172, .ref gq184, .ref gq150, .ref gq161, .int (-1)])), (gq138, .inr (8, [.ref gq139, .ref gq140, .ref gq141, .ref gq142, .ref gq143, .int 0, .ref gq144, .int 0, .int 0, .int 0, .int 0, .int 0, .ref gq145, .ref gq146, .ref gq147, .ref gq148, .ref gq149]))] s.heap.size = A at hD hE ⊢
  have hA : ∀ q : Nat, s.heap.size ≤ q → A q := fun q h => by rw [← hAe]; exact Or.inr h
  have hS : va_S A s.heap s.heap [] := va_S.rf
  have hP : va_P (dC, dI) cls [(gx, .inr (11, [.ref gq1, .ref gq4, .ref gq13, .ref gq136, .ref gq137, .ref gq138, .ref gq172, .ref gq184, .ref gq150, .ref gq161, .int (-1)])), (gq138, .inr (8, [.ref gq139, .ref gq140, .ref gq141, .ref gq142, .ref gq143, .int 0, .ref gq144, .int 0, .int 0, .int 0, .int 0, .int 0, .ref gq145, .ref gq146, .ref gq147, .ref gq148, .ref gq149]))] s.heap := hP
  have hl := lv_entry ([.ref gx]) (n := 3) (Nat.le_of_ble_eq_true rfl)
  rw [lg_entry_eq]
  generalize (lg_sl ([.ref gx]) ++ List.replicate (3 - (lg_sl ([.ref gx])).length) Slot.unset).toArray = ls at hl ⊢
  have hl : lv_has ls 3 [(0, .ref gx)] := hl
  refine lv_aload_n hx hb dX11_meanCode_0 rfl (lv_at hl 0 rfl) ?_
  refine va_get (D := (dC, dI)) (ci := 11) (v := .ref gq138) (C := RX11) (T := TX11) (N := 11) hx hb hts i_X11 hown hK hP 0 rfl rfl 5 (by decide) (hts _ qw189) (fun _ h9 => h9) rfl dX11_meanCode_1 ?_
  refine va_get (D := (dC, dI)) (ci := 8) (v := .int 0) (C := RX0) (T := TX0) (N := 17) hx hb hts i_X0 hown hK hP 1 rfl rfl 5 (by decide) (hts _ qw216) (fun _ h9 => h9) rfl dX11_meanCode_4 ?_
  refine lv_if_eq (tgt := 20) hx hb dX11_meanCode_7 (by decide) (fun _ => ?_) (fun c => absurd (by decide) c)
  refine lv_dconst0 hx hb dX11_meanCode_20 ?_
  have hP9 : va_P (dC, dI) cls [] s.heap := hP.sub [] rfl
  have hD9 : va_D A [] := hD.sub [] (by decide) rfl
  have hK9 : va_K (dC, dI) cls [] s := hK.sub [] rfl
  exact W.dret (v := FP.dconst0) hx hb hr (fun t ht hW => ⟨⟨FP.dconst0, (), rfl, rfl, ⟨by rw [ht]; exact hP9, va_K.moved hW.alike hK9, hD9⟩⟩, hS.F ht⟩) hS.2.2 dX11_meanCode_21
set_option maxHeartbeats 4000000 in
set_option maxRecDepth 100000 in
theorem kX11_digest {zs : Nat × Nat} (l : Launch) (dC : Nat → ClassId) (dI : Nat → Nat → Nat) (gx : Nat) (gq1 : Nat) (gq4 : Nat) (gq13 : Nat) (gq136 : Nat) (gq137 : Nat) (gq138 : Nat) (gq150 : Nat) (gq151 : Nat) (gq152 : Nat) (gq153 : Nat) (gq154 : Nat) (gq155 : Nat) (gq156 : Nat) (gq157 : Nat) (gq158 : Nat) (gq159 : Nat) (gq160 : Nat) (gq161 : Nat) (gq172 : Nat) (gq173 : Nat) (gc174 : ClassId) (gq175 : Nat) (gq176 : Nat) (gq177 : Nat) (gq178 : Nat) (gq179 : Nat) (gq180 : Nat) (gq181 : Nat) (gq182 : Nat) (gq183 : Nat) (gq184 : Nat) (sz : Nat)  : Met l yX11_digest (wz yX11_digest cX11_digest 4 (Option.some Jvm.ClassFile.FieldType.long)) ({ frames := 0, cells := 0, slots := 0, locals := 0 }) (va_Pc [.ref gx] (PRE zs dC dI [(gx, .inr (11, [.ref gq1, .ref gq4, .ref gq13, .ref gq136, .ref gq137, .ref gq138, .ref gq172, .ref gq184, .ref gq150, .ref gq161, .int (-1)])), (gq150, .inr (2, [.int 0, .ref gq151, .ref gq152, .ref gq153, .ref gq154, .ref gq155, .ref gq156, .int 0, .ref gq157, .ref gq158, .ref gq159, .int 0, .ref gq160])), (gq172, .inr (10, [.int 0, .int 0, .int 0, .ref gq173, .ref gq150, .ref gq13, .ref gq138, .ref gq175, .int 0, .int 0, .ref gq176, .ref gq177, .ref gq178, .ref gq179, .ref gq180, .ref gq181, .ref gq182, .int 0, .ref gq183, .int 0])), (gq173, .inl (gc174, 16, .inl (fun _ => 0)))] [(gc174, .int)] sz)) (va_Ql (fun (r : Int64) (_ : Unit) => r = (-624062602623119192)) (fun _ t => POST dC dI [] [] (va_A [(gx, .inr (11, [.ref gq1, .ref gq4, .ref gq13, .ref gq136, .ref gq137, .ref gq138, .ref gq172, .ref gq184, .ref gq150, .ref gq161, .int (-1)])), (gq150, .inr (2, [.int 0, .ref gq151, .ref gq152, .ref gq153, .ref gq154, .ref gq155, .ref gq156, .int 0, .ref gq157, .ref gq158, .ref gq159, .int 0, .ref gq160])), (gq172, .inr (10, [.int 0, .int 0, .int 0, .ref gq173, .ref gq150, .ref gq13, .ref gq138, .ref gq175, .int 0, .int 0, .ref gq176, .ref gq177, .ref gq178, .ref gq179, .ref gq180, .ref gq181, .ref gq182, .int 0, .ref gq183, .int 0])), (gq173, .inl (gc174, 16, .inl (fun _ => 0)))] sz) t) (va_A [(gx, .inr (11, [.ref gq1, .ref gq4, .ref gq13, .ref gq136, .ref gq137, .ref gq138, .ref gq172, .ref gq184, .ref gq150, .ref gq161, .int (-1)])), (gq150, .inr (2, [.int 0, .ref gq151, .ref gq152, .ref gq153, .ref gq154, .ref gq155, .ref gq156, .int 0, .ref gq157, .ref gq158, .ref gq159, .int 0, .ref gq160])), (gq172, .inr (10, [.int 0, .int 0, .int 0, .ref gq173, .ref gq150, .ref gq13, .ref gq138, .ref gq175, .int 0, .int 0, .ref gq176, .ref gq177, .ref gq178, .ref gq179, .ref gq180, .ref gq181, .ref gq182, .int 0, .ref gq183, .int 0])), (gq173, .inl (gc174, 16, .inl (fun _ => 0)))] sz)) 0 0 (va_A [(gx, .inr (11, [.ref gq1, .ref gq4, .ref gq13, .ref gq136, .ref gq137, .ref gq138, .ref gq172, .ref gq184, .ref gq150, .ref gq161, .int (-1)])), (gq150, .inr (2, [.int 0, .ref gq151, .ref gq152, .ref gq153, .ref gq154, .ref gq155, .ref gq156, .int 0, .ref gq157, .ref gq158, .ref gq159, .int 0, .ref gq160])), (gq172, .inr (10, [.int 0, .int 0, .int 0, .ref gq173, .ref gq150, .ref gq13, .ref gq138, .ref gq175, .int 0, .int 0, .ref gq176, .ref gq177, .ref gq178, .ref gq179, .ref gq180, .ref gq181, .ref gq182, .int 0, .ref gq183, .int 0])), (gq173, .inl (gc174, 16, .inl (fun _ => 0)))] sz) := by
  refine Met.ofW (cc := cX11_digest) (maxL := 4) (ret := (Option.some Jvm.ClassFile.FieldType.long)) (by decide) rfl ?_
  intro p e s m args below meth c s₁ B hml hv
  obtain ⟨rfl, hsz, hP, hK, hD0, hE⟩ := hv
  have hx := B.exec
  have hb := B.bytes
  have hr := B.returns
  have hts0 := atoms_spec (ws := wz yX11_digest cX11_digest 4 (Option.some Jvm.ClassFile.FieldType.long)) B.pre
  have hts : ∀ w ∈ gw, w.before _ s = true := fun w h => hts0 w (List.mem_cons_of_mem _ h)
  have hown : s.vm.findClass RX11 = some m.cls := findClass_of_methodNamed B.named
  have hlocks := B.notSynchronized
  subst hsz
  have hD := hD0.self (sz := s.heap.size)
  generalize hAe : va_A [(gx, .inr (11, [.ref gq1, .ref gq4, .ref gq13, .ref gq136, .ref gq137, .ref gq138, .ref gq172, .ref gq184, .ref gq150, .ref gq161, .int (-1)])), (gq150, .inr (2, [.int 0, .ref gq151, .ref gq152, .ref gq153, .ref gq154, .ref gq155, .ref gq156, .int 0, .ref gq157, .ref gq158, .ref gq159, .int 0, .ref gq160])), (gq172, .inr (10, [.int 0, .int 0, .int 0, .ref gq173, .ref gq150, .ref gq13, .ref gq138, .ref gq175, .int 0, .int 0, .ref gq176, .ref gq177, .ref gq178, .ref gq179, .ref gq180, .ref gq181, .ref gq182, .int 0, .ref gq183, .int 0])), (gq173, .inl (gc174, 16, .inl (fun _ => 0)))] s.heap.size = A at hD hE ⊢
  have hA : ∀ q : Nat, s.heap.size ≤ q → A q := fun q h => by rw [← hAe]; exact Or.inr h
  have hS : va_S A s.heap s.heap [] := va_S.rf
  have hP : va_P (dC, dI) cls [(gx, .inr (11, [.ref gq1, .ref gq4, .ref gq13, .ref gq136, .ref gq137, .ref gq138, .ref gq172, .ref gq184, .ref gq150, .ref gq161, .int (-1)])), (gq150, .inr (2, [.int 0, .ref gq151, .ref gq152, .ref gq153, .ref gq154, .ref gq155, .ref gq156, .int 0, .ref gq157, .ref gq158, .ref gq159, .int 0, .ref gq160])), (gq172, .inr (10, [.int 0, .int 0, .int 0, .ref gq173, .ref gq150, .ref gq13, .ref gq138, .ref gq175, .int 0, .int 0, .ref gq176, .ref gq177, .ref gq178, .ref gq179, .ref gq180, .ref gq181, .ref gq182, .int 0, .ref gq183, .int 0])), (gq173, .inl (gc174, 16, .inl (fun _ => 0)))] s.heap := hP
  have hl := lv_entry ([.ref gx]) (n := 4) (Nat.le_of_ble_eq_true rfl)
  rw [lg_entry_eq]
  generalize (lg_sl ([.ref gx]) ++ List.replicate (4 - (lg_sl ([.ref gx])).length) Slot.unset).toArray = ls at hl ⊢
  have hl : lv_has ls 4 [(0, .ref gx)] := hl
  refine lv_ldc2 (v := 58009) hx hb hown (hts _ qw267) dX11_digest_0 ?_
  refine lv_lstore_n (lv' := [(1, .long 58009), (0, .ref gx)]) hx hb dX11_digest_3 rfl hl (by decide) rfl (fun ls hl => ?_)
  refine lv_lload_n hx hb dX11_digest_4 rfl (lv_at hl 0 rfl) ?_
  refine lv_ldc2 (v := 31) hx hb hown (hts _ qw268) dX11_digest_5 ?_
  refine lv_lmul hx hb dX11_digest_8 ?_
  refine lv_topCl (y := 1798279) (by decide) ?_
  refine lv_aload_n hx hb dX11_digest_9 rfl (lv_at hl 1 rfl) ?_
  refine va_get (D := (dC, dI)) (ci := 11) (v := .ref gq150) (C := RX11) (T := TX11) (N := 11) hx hb hts i_X11 hown hK hP 0 rfl rfl 8 (by decide) (hts _ qw195) (fun _ h9 => h9) rfl dX11_digest_10 ?_
  refine va_get (D := (dC, dI)) (ci := 2) (v := .int 0) (C := RX6) (T := TX6) (N := 13) hx hb hts i_X6 hown hK hP 1 rfl rfl 0 (by decide) (hts _ qw215) (fun _ h9 => h9) rfl dX11_digest_13 ?_
  refine lv_i2l (v := 0) hx hb dX11_digest_16 (by decide) ?_
  refine lv_ladd hx hb dX11_digest_17 ?_
  refine lv_topCl (y := 1798279) (by decide) ?_
  refine lv_lstore_n (lv' := [(1, .long 1798279), (0, .ref gx)]) hx hb dX11_digest_18 rfl hl (by decide) rfl (fun ls hl => ?_)
  refine lv_lload_n hx hb dX11_digest_19 rfl (lv_at hl 0 rfl) ?_
  refine lv_ldc2 (v := 31) hx hb hown (hts _ qw268) dX11_digest_20 ?_
  refine lv_lmul hx hb dX11_digest_23 ?_
  refine lv_topCl (y := 55746649) (by decide) ?_
  refine lv_aload_n hx hb dX11_digest_24 rfl (lv_at hl 1 rfl) ?_
  refine va_get (D := (dC, dI)) (ci := 11) (v := .int (-1)) (C := RX11) (T := TX11) (N := 11) hx hb hts i_X11 hown hK hP 0 rfl rfl 10 (by decide) (hts _ qw206) (fun _ h9 => h9) rfl dX11_digest_25 ?_
  refine lv_i2l (v := (-1)) hx hb dX11_digest_28 (by decide) ?_
  refine lv_ladd hx hb dX11_digest_29 ?_
  refine lv_topCl (y := 55746648) (by decide) ?_
  refine lv_lstore_n (lv' := [(1, .long 55746648), (0, .ref gx)]) hx hb dX11_digest_30 rfl hl (by decide) rfl (fun ls hl => ?_)
  refine lv_lload_n hx hb dX11_digest_31 rfl (lv_at hl 0 rfl) ?_
  refine lv_ldc2 (v := 31) hx hb hown (hts _ qw268) dX11_digest_32 ?_
  refine lv_lmul hx hb dX11_digest_35 ?_
  refine lv_topCl (y := 1728146088) (by decide) ?_
  refine lv_aload_n hx hb dX11_digest_36 rfl (lv_at hl 1 rfl) ?_
  refine va_get (D := (dC, dI)) (ci := 11) (v := .ref gq172) (C := RX11) (T := TX11) (N := 11) hx hb hts i_X11 hown hK hP 0 rfl rfl 6 (by decide) (hts _ qw203) (fun _ h9 => h9) rfl dX11_digest_37 ?_
  refine va_get (D := (dC, dI)) (ci := 10) (v := .int 0) (C := RX3) (T := TX3) (N := 20) hx hb hts i_X3 hown hK hP 2 rfl rfl 0 (by decide) (hts _ qw239) (fun _ h9 => h9) rfl dX11_digest_40 ?_
  refine lv_i2l (v := 0) hx hb dX11_digest_43 (by decide) ?_
  refine lv_ladd hx hb dX11_digest_44 ?_
  refine lv_topCl (y := 1728146088) (by decide) ?_
  refine lv_lstore_n (lv' := [(1, .long 1728146088), (0, .ref gx)]) hx hb dX11_digest_45 rfl hl (by decide) rfl (fun ls hl => ?_)
  refine lv_lload_n hx hb dX11_digest_46 rfl (lv_at hl 0 rfl) ?_
  refine lv_ldc2 (v := 31) hx hb hown (hts _ qw268) dX11_digest_47 ?_
  refine lv_lmul hx hb dX11_digest_50 ?_
  refine lv_topCl (y := 53572528728) (by decide) ?_
  refine lv_aload_n hx hb dX11_digest_51 rfl (lv_at hl 1 rfl) ?_
  refine va_get (D := (dC, dI)) (ci := 11) (v := .ref gq172) (C := RX11) (T := TX11) (N := 11) hx hb hts i_X11 hown hK hP 0 rfl rfl 6 (by decide) (hts _ qw203) (fun _ h9 => h9) rfl dX11_digest_52 ?_
  refine va_get (D := (dC, dI)) (ci := 10) (v := .int 0) (C := RX3) (T := TX3) (N := 20) hx hb hts i_X3 hown hK hP 2 rfl rfl 1 (by decide) (hts _ qw240) (fun _ h9 => h9) rfl dX11_digest_55 ?_
  refine lv_i2l (v := 0) hx hb dX11_digest_58 (by decide) ?_
  refine lv_ladd hx hb dX11_digest_59 ?_
  refine lv_topCl (y := 53572528728) (by decide) ?_
  refine lv_lstore_n (lv' := [(1, .long 53572528728), (0, .ref gx)]) hx hb dX11_digest_60 rfl hl (by decide) rfl (fun ls hl => ?_)
  refine lv_lload_n hx hb dX11_digest_61 rfl (lv_at hl 0 rfl) ?_
  refine lv_ldc2 (v := 31) hx hb hown (hts _ qw268) dX11_digest_62 ?_
  refine lv_lmul hx hb dX11_digest_65 ?_
  refine lv_topCl (y := 1660748390568) (by decide) ?_
  refine lv_aload_n hx hb dX11_digest_66 rfl (lv_at hl 1 rfl) ?_
  refine va_get (D := (dC, dI)) (ci := 11) (v := .ref gq172) (C := RX11) (T := TX11) (N := 11) hx hb hts i_X11 hown hK hP 0 rfl rfl 6 (by decide) (hts _ qw203) (fun _ h9 => h9) rfl dX11_digest_67 ?_
  refine va_get (D := (dC, dI)) (ci := 10) (v := .int 0) (C := RX3) (T := TX3) (N := 20) hx hb hts i_X3 hown hK hP 2 rfl rfl 2 (by decide) (hts _ qw241) (fun _ h9 => h9) rfl dX11_digest_70 ?_
  refine lv_i2l (v := 0) hx hb dX11_digest_73 (by decide) ?_
  refine lv_ladd hx hb dX11_digest_74 ?_
  refine lv_topCl (y := 1660748390568) (by decide) ?_
  refine lv_lstore_n (lv' := [(1, .long 1660748390568), (0, .ref gx)]) hx hb dX11_digest_75 rfl hl (by decide) rfl (fun ls hl => ?_)
  refine lv_iconst (v := 0) hx hb dX11_digest_76 (by decide) ?_
  refine lv_istore_n (lv' := [(3, .int 0), (1, .long 1660748390568), (0, .ref gx)]) hx hb dX11_digest_77 rfl hl (by decide) rfl (fun ls hl => ?_)
  refine lv_iload_n hx hb dX11_digest_78 rfl (lv_at hl 0 rfl) ?_
  refine lv_bipush (v := 16) hx hb dX11_digest_79 (by decide) ?_
  refine lv_icmp_ge (tgt := 107) hx hb dX11_digest_81 (by decide) (fun c => absurd c (by decide)) (fun _ => ?_)
  refine lv_lload_n hx hb dX11_digest_84 rfl (lv_at hl 1 rfl) ?_
  refine lv_ldc2 (v := 31) hx hb hown (hts _ qw268) dX11_digest_85 ?_
  refine lv_lmul hx hb dX11_digest_88 ?_
  refine lv_topCl (y := 51483200107608) (by decide) ?_
  refine lv_aload_n hx hb dX11_digest_89 rfl (lv_at hl 2 rfl) ?_
  refine va_get (D := (dC, dI)) (ci := 11) (v := .ref gq172) (C := RX11) (T := TX11) (N := 11) hx hb hts i_X11 hown hK hP 0 rfl rfl 6 (by decide) (hts _ qw203) (fun _ h9 => h9) rfl dX11_digest_90 ?_
  refine va_get (D := (dC, dI)) (ci := 10) (v := .ref gq173) (C := RX3) (T := TX3) (N := 20) hx hb hts i_X3 hown hK hP 2 rfl rfl 3 (by decide) (hts _ qw264) (fun _ h9 => h9) rfl dX11_digest_93 ?_
  refine lv_iload_n hx hb dX11_digest_96 rfl (lv_at hl 0 rfl) ?_
  refine va_iald hx hb hK hP 3 0 rfl rfl (by unfold vp_in; decide +kernel) dX11_digest_97 ?_
  refine lv_topC (y := 0) rfl ?_
  refine lv_i2l (v := 0) hx hb dX11_digest_98 (by decide) ?_
  refine lv_ladd hx hb dX11_digest_99 ?_
  refine lv_topCl (y := 51483200107608) (by decide) ?_
  refine lv_lstore_n (lv' := [(1, .long 51483200107608), (3, .int 0), (0, .ref gx)]) hx hb dX11_digest_100 rfl hl (by decide) rfl (fun ls hl => ?_)
  refine lv_iinc (v := 1) (lv' := [(3, .int 1), (1, .long 51483200107608), (0, .ref gx)]) hx hb dX11_digest_101 hl (k := 1) rfl (by decide) (by decide) rfl (fun ls hl => ?_)
  refine lv_goto (tgt := 78) hx hb dX11_digest_104 (by decide) ?_
  refine lv_iload_n hx hb dX11_digest_78 rfl (lv_at hl 0 rfl) ?_
  refine lv_bipush (v := 16) hx hb dX11_digest_79 (by decide) ?_
  refine lv_icmp_ge (tgt := 107) hx hb dX11_digest_81 (by decide) (fun c => absurd c (by decide)) (fun _ => ?_)
  refine lv_lload_n hx hb dX11_digest_84 rfl (lv_at hl 1 rfl) ?_
  refine lv_ldc2 (v := 31) hx hb hown (hts _ qw268) dX11_digest_85 ?_
  refine lv_lmul hx hb dX11_digest_88 ?_
  refine lv_topCl (y := 1595979203335848) (by decide) ?_
  refine lv_aload_n hx hb dX11_digest_89 rfl (lv_at hl 2 rfl) ?_
  refine va_get (D := (dC, dI)) (ci := 11) (v := .ref gq172) (C := RX11) (T := TX11) (N := 11) hx hb hts i_X11 hown hK hP 0 rfl rfl 6 (by decide) (hts _ qw203) (fun _ h9 => h9) rfl dX11_digest_90 ?_
  refine va_get (D := (dC, dI)) (ci := 10) (v := .ref gq173) (C := RX3) (T := TX3) (N := 20) hx hb hts i_X3 hown hK hP 2 rfl rfl 3 (by decide) (hts _ qw264) (fun _ h9 => h9) rfl dX11_digest_93 ?_
  refine lv_iload_n hx hb dX11_digest_96 rfl (lv_at hl 0 rfl) ?_
  refine va_iald hx hb hK hP 3 0 rfl rfl (by unfold vp_in; decide +kernel) dX11_digest_97 ?_
  refine lv_topC (y := 0) rfl ?_
  refine lv_i2l (v := 0) hx hb dX11_digest_98 (by decide) ?_
  refine lv_ladd hx hb dX11_digest_99 ?_
  refine lv_topCl (y := 1595979203335848) (by decide) ?_
  refine lv_lstore_n (lv' := [(1, .long 1595979203335848), (3, .int 1), (0, .ref gx)]) hx hb dX11_digest_100 rfl hl (by decide) rfl (fun ls hl => ?_)
  refine lv_iinc (v := 2) (lv' := [(3, .int 2), (1, .long 1595979203335848), (0, .ref gx)]) hx hb dX11_digest_101 hl (k := 1) rfl (by decide) (by decide) rfl (fun ls hl => ?_)
  refine lv_goto (tgt := 78) hx hb dX11_digest_104 (by decide) ?_
  refine lv_iload_n hx hb dX11_digest_78 rfl (lv_at hl 0 rfl) ?_
  refine lv_bipush (v := 16) hx hb dX11_digest_79 (by decide) ?_
  refine lv_icmp_ge (tgt := 107) hx hb dX11_digest_81 (by decide) (fun c => absurd c (by decide)) (fun _ => ?_)
  refine lv_lload_n hx hb dX11_digest_84 rfl (lv_at hl 1 rfl) ?_
  refine lv_ldc2 (v := 31) hx hb hown (hts _ qw268) dX11_digest_85 ?_
  refine lv_lmul hx hb dX11_digest_88 ?_
  refine lv_topCl (y := 49475355303411288) (by decide) ?_
  refine lv_aload_n hx hb dX11_digest_89 rfl (lv_at hl 2 rfl) ?_
  refine va_get (D := (dC, dI)) (ci := 11) (v := .ref gq172) (C := RX11) (T := TX11) (N := 11) hx hb hts i_X11 hown hK hP 0 rfl rfl 6 (by decide) (hts _ qw203) (fun _ h9 => h9) rfl dX11_digest_90 ?_
  refine va_get (D := (dC, dI)) (ci := 10) (v := .ref gq173) (C := RX3) (T := TX3) (N := 20) hx hb hts i_X3 hown hK hP 2 rfl rfl 3 (by decide) (hts _ qw264) (fun _ h9 => h9) rfl dX11_digest_93 ?_
  refine lv_iload_n hx hb dX11_digest_96 rfl (lv_at hl 0 rfl) ?_
  refine va_iald hx hb hK hP 3 0 rfl rfl (by unfold vp_in; decide +kernel) dX11_digest_97 ?_
  refine lv_topC (y := 0) rfl ?_
  refine lv_i2l (v := 0) hx hb dX11_digest_98 (by decide) ?_
  refine lv_ladd hx hb dX11_digest_99 ?_
  refine lv_topCl (y := 49475355303411288) (by decide) ?_
  refine lv_lstore_n (lv' := [(1, .long 49475355303411288), (3, .int 2), (0, .ref gx)]) hx hb dX11_digest_100 rfl hl (by decide) rfl (fun ls hl => ?_)
  refine lv_iinc (v := 3) (lv' := [(3, .int 3), (1, .long 49475355303411288), (0, .ref gx)]) hx hb dX11_digest_101 hl (k := 1) rfl (by decide) (by decide) rfl (fun ls hl => ?_)
  refine lv_goto (tgt := 78) hx hb dX11_digest_104 (by decide) ?_
  refine lv_iload_n hx hb dX11_digest_78 rfl (lv_at hl 0 rfl) ?_
  refine lv_bipush (v := 16) hx hb dX11_digest_79 (by decide) ?_
  refine lv_icmp_ge (tgt := 107) hx hb dX11_digest_81 (by decide) (fun c => absurd c (by decide)) (fun _ => ?_)
  refine lv_lload_n hx hb dX11_digest_84 rfl (lv_at hl 1 rfl) ?_
  refine lv_ldc2 (v := 31) hx hb hown (hts _ qw268) dX11_digest_85 ?_
  refine lv_lmul hx hb dX11_digest_88 ?_
  refine lv_topCl (y := 1533736014405749928) (by decide) ?_
  refine lv_aload_n hx hb dX11_digest_89 rfl (lv_at hl 2 rfl) ?_
  refine va_get (D := (dC, dI)) (ci := 11) (v := .ref gq172) (C := RX11) (T := TX11) (N := 11) hx hb hts i_X11 hown hK hP 0 rfl rfl 6 (by decide) (hts _ qw203) (fun _ h9 => h9) rfl dX11_digest_90 ?_
  refine va_get (D := (dC, dI)) (ci := 10) (v := .ref gq173) (C := RX3) (T := TX3) (N := 20) hx hb hts i_X3 hown hK hP 2 rfl rfl 3 (by decide) (hts _ qw264) (fun _ h9 => h9) rfl dX11_digest_93 ?_
  refine lv_iload_n hx hb dX11_digest_96 rfl (lv_at hl 0 rfl) ?_
  refine va_iald hx hb hK hP 3 0 rfl rfl (by unfold vp_in; decide +kernel) dX11_digest_97 ?_
  refine lv_topC (y := 0) rfl ?_
  refine lv_i2l (v := 0) hx hb dX11_digest_98 (by decide) ?_
  refine lv_ladd hx hb dX11_digest_99 ?_
  refine lv_topCl (y := 1533736014405749928) (by decide) ?_
  refine lv_lstore_n (lv' := [(1, .long 1533736014405749928), (3, .int 3), (0, .ref gx)]) hx hb dX11_digest_100 rfl hl (by decide) rfl (fun ls hl => ?_)
  refine lv_iinc (v := 4) (lv' := [(3, .int 4), (1, .long 1533736014405749928), (0, .ref gx)]) hx hb dX11_digest_101 hl (k := 1) rfl (by decide) (by decide) rfl (fun ls hl => ?_)
  refine lv_goto (tgt := 78) hx hb dX11_digest_104 (by decide) ?_
  refine lv_iload_n hx hb dX11_digest_78 rfl (lv_at hl 0 rfl) ?_
  refine lv_bipush (v := 16) hx hb dX11_digest_79 (by decide) ?_
  refine lv_icmp_ge (tgt := 107) hx hb dX11_digest_81 (by decide) (fun c => absurd c (by decide)) (fun _ => ?_)
  refine lv_lload_n hx hb dX11_digest_84 rfl (lv_at hl 1 rfl) ?_
  refine lv_ldc2 (v := 31) hx hb hown (hts _ qw268) dX11_digest_85 ?_
  refine lv_lmul hx hb dX11_digest_88 ?_
  refine lv_topCl (y := (-7794415774550407080)) (by decide) ?_
  refine lv_aload_n hx hb dX11_digest_89 rfl (lv_at hl 2 rfl) ?_
  refine va_get (D := (dC, dI)) (ci := 11) (v := .ref gq172) (C := RX11) (T := TX11) (N := 11) hx hb hts i_X11 hown hK hP 0 rfl rfl 6 (by decide) (hts _ qw203) (fun _ h9 => h9) rfl dX11_digest_90 ?_
  refine va_get (D := (dC, dI)) (ci := 10) (v := .ref gq173) (C := RX3) (T := TX3) (N := 20) hx hb hts i_X3 hown hK hP 2 rfl rfl 3 (by decide) (hts _ qw264) (fun _ h9 => h9) rfl dX11_digest_93 ?_
  refine lv_iload_n hx hb dX11_digest_96 rfl (lv_at hl 0 rfl) ?_
  refine va_iald hx hb hK hP 3 0 rfl rfl (by unfold vp_in; decide +kernel) dX11_digest_97 ?_
  refine lv_topC (y := 0) rfl ?_
  refine lv_i2l (v := 0) hx hb dX11_digest_98 (by decide) ?_
  refine lv_ladd hx hb dX11_digest_99 ?_
  refine lv_topCl (y := (-7794415774550407080)) (by decide) ?_
  refine lv_lstore_n (lv' := [(1, .long (-7794415774550407080)), (3, .int 4), (0, .ref gx)]) hx hb dX11_digest_100 rfl hl (by decide) rfl (fun ls hl => ?_)
  refine lv_iinc (v := 5) (lv' := [(3, .int 5), (1, .long (-7794415774550407080)), (0, .ref gx)]) hx hb dX11_digest_101 hl (k := 1) rfl (by decide) (by decide) rfl (fun ls hl => ?_)
  refine lv_goto (tgt := 78) hx hb dX11_digest_104 (by decide) ?_
  refine lv_iload_n hx hb dX11_digest_78 rfl (lv_at hl 0 rfl) ?_
  refine lv_bipush (v := 16) hx hb dX11_digest_79 (by decide) ?_
  refine lv_icmp_ge (tgt := 107) hx hb dX11_digest_81 (by decide) (fun c => absurd c (by decide)) (fun _ => ?_)
  refine lv_lload_n hx hb dX11_digest_84 rfl (lv_at hl 1 rfl) ?_
  refine lv_ldc2 (v := 31) hx hb hown (hts _ qw268) dX11_digest_85 ?_
  refine lv_lmul hx hb dX11_digest_88 ?_
  refine lv_topCl (y := (-1819216052838448472)) (by decide) ?_
  refine lv_aload_n hx hb dX11_digest_89 rfl (lv_at hl 2 rfl) ?_
  refine va_get (D := (dC, dI)) (ci := 11) (v := .ref gq172) (C := RX11) (T := TX11) (N := 11) hx hb hts i_X11 hown hK hP 0 rfl rfl 6 (by decide) (hts _ qw203) (fun _ h9 => h9) rfl dX11_digest_90 ?_
  refine va_get (D := (dC, dI)) (ci := 10) (v := .ref gq173) (C := RX3) (T := TX3) (N := 20) hx hb hts i_X3 hown hK hP 2 rfl rfl 3 (by decide) (hts _ qw264) (fun _ h9 => h9) rfl dX11_digest_93 ?_
  refine lv_iload_n hx hb dX11_digest_96 rfl (lv_at hl 0 rfl) ?_
  refine va_iald hx hb hK hP 3 0 rfl rfl (by unfold vp_in; decide +kernel) dX11_digest_97 ?_
  refine lv_topC (y := 0) rfl ?_
  refine lv_i2l (v := 0) hx hb dX11_digest_98 (by decide) ?_
  refine lv_ladd hx hb dX11_digest_99 ?_
  refine lv_topCl (y := (-1819216052838448472)) (by decide) ?_
  refine lv_lstore_n (lv' := [(1, .long (-1819216052838448472)), (3, .int 5), (0, .ref gx)]) hx hb dX11_digest_100 rfl hl (by decide) rfl (fun ls hl => ?_)
  refine lv_iinc (v := 6) (lv' := [(3, .int 6), (1, .long (-1819216052838448472)), (0, .ref gx)]) hx hb dX11_digest_101 hl (k := 1) rfl (by decide) (by decide) rfl (fun ls hl => ?_)
  refine lv_goto (tgt := 78) hx hb dX11_digest_104 (by decide) ?_
  refine lv_iload_n hx hb dX11_digest_78 rfl (lv_at hl 0 rfl) ?_
  refine lv_bipush (v := 16) hx hb dX11_digest_79 (by decide) ?_
  refine lv_icmp_ge (tgt := 107) hx hb dX11_digest_81 (by decide) (fun c => absurd c (by decide)) (fun _ => ?_)
  refine lv_lload_n hx hb dX11_digest_84 rfl (lv_at hl 1 rfl) ?_
  refine lv_ldc2 (v := 31) hx hb hown (hts _ qw268) dX11_digest_85 ?_
  refine lv_lmul hx hb dX11_digest_88 ?_
  refine lv_topCl (y := (-1055465416863247784)) (by decide) ?_
  refine lv_aload_n hx hb dX11_digest_89 rfl (lv_at hl 2 rfl) ?_
  refine va_get (D := (dC, dI)) (ci := 11) (v := .ref gq172) (C := RX11) (T := TX11) (N := 11) hx hb hts i_X11 hown hK hP 0 rfl rfl 6 (by decide) (hts _ qw203) (fun _ h9 => h9) rfl dX11_digest_90 ?_
  refine va_get (D := (dC, dI)) (ci := 10) (v := .ref gq173) (C := RX3) (T := TX3) (N := 20) hx hb hts i_X3 hown hK hP 2 rfl rfl 3 (by decide) (hts _ qw264) (fun _ h9 => h9) rfl dX11_digest_93 ?_
  refine lv_iload_n hx hb dX11_digest_96 rfl (lv_at hl 0 rfl) ?_
  refine va_iald hx hb hK hP 3 0 rfl rfl (by unfold vp_in; decide +kernel) dX11_digest_97 ?_
  refine lv_topC (y := 0) rfl ?_
  refine lv_i2l (v := 0) hx hb dX11_digest_98 (by decide) ?_
  refine lv_ladd hx hb dX11_digest_99 ?_
  refine lv_topCl (y := (-1055465416863247784)) (by decide) ?_
  refine lv_lstore_n (lv' := [(1, .long (-1055465416863247784)), (3, .int 6), (0, .ref gx)]) hx hb dX11_digest_100 rfl hl (by decide) rfl (fun ls hl => ?_)
  refine lv_iinc (v := 7) (lv' := [(3, .int 7), (1, .long (-1055465416863247784)), (0, .ref gx)]) hx hb dX11_digest_101 hl (k := 1) rfl (by decide) (by decide) rfl (fun ls hl => ?_)
  refine lv_goto (tgt := 78) hx hb dX11_digest_104 (by decide) ?_
  refine lv_iload_n hx hb dX11_digest_78 rfl (lv_at hl 0 rfl) ?_
  refine lv_bipush (v := 16) hx hb dX11_digest_79 (by decide) ?_
  refine lv_icmp_ge (tgt := 107) hx hb dX11_digest_81 (by decide) (fun c => absurd c (by decide)) (fun _ => ?_)
  refine lv_lload_n hx hb dX11_digest_84 rfl (lv_at hl 1 rfl) ?_
  refine lv_ldc2 (v := 31) hx hb hown (hts _ qw268) dX11_digest_85 ?_
  refine lv_lmul hx hb dX11_digest_88 ?_
  refine lv_topCl (y := 4174060224658421928) (by decide) ?_
  refine lv_aload_n hx hb dX11_digest_89 rfl (lv_at hl 2 rfl) ?_
  refine va_get (D := (dC, dI)) (ci := 11) (v := .ref gq172) (C := RX11) (T := TX11) (N := 11) hx hb hts i_X11 hown hK hP 0 rfl rfl 6 (by decide) (hts _ qw203) (fun _ h9 => h9) rfl dX11_digest_90 ?_
  refine va_get (D := (dC, dI)) (ci := 10) (v := .ref gq173) (C := RX3) (T := TX3) (N := 20) hx hb hts i_X3 hown hK hP 2 rfl rfl 3 (by decide) (hts _ qw264) (fun _ h9 => h9) rfl dX11_digest_93 ?_
  refine lv_iload_n hx hb dX11_digest_96 rfl (lv_at hl 0 rfl) ?_
  refine va_iald hx hb hK hP 3 0 rfl rfl (by unfold vp_in; decide +kernel) dX11_digest_97 ?_
  refine lv_topC (y := 0) rfl ?_
  refine lv_i2l (v := 0) hx hb dX11_digest_98 (by decide) ?_
  refine lv_ladd hx hb dX11_digest_99 ?_
  refine lv_topCl (y := 4174060224658421928) (by decide) ?_
  refine lv_lstore_n (lv' := [(1, .long 4174060224658421928), (3, .int 7), (0, .ref gx)]) hx hb dX11_digest_100 rfl hl (by decide) rfl (fun ls hl => ?_)
  refine lv_iinc (v := 8) (lv' := [(3, .int 8), (1, .long 4174060224658421928), (0, .ref gx)]) hx hb dX11_digest_101 hl (k := 1) rfl (by decide) (by decide) rfl (fun ls hl => ?_)
  refine lv_goto (tgt := 78) hx hb dX11_digest_104 (by decide) ?_
  refine lv_iload_n hx hb dX11_digest_78 rfl (lv_at hl 0 rfl) ?_
  refine lv_bipush (v := 16) hx hb dX11_digest_79 (by decide) ?_
  refine lv_icmp_ge (tgt := 107) hx hb dX11_digest_81 (by decide) (fun c => absurd c (by decide)) (fun _ => ?_)
  refine lv_lload_n hx hb dX11_digest_84 rfl (lv_at hl 1 rfl) ?_
  refine lv_ldc2 (v := 31) hx hb hown (hts _ qw268) dX11_digest_85 ?_
  refine lv_lmul hx hb dX11_digest_88 ?_
  refine lv_topCl (y := 268658448444218456) (by decide) ?_
  refine lv_aload_n hx hb dX11_digest_89 rfl (lv_at hl 2 rfl) ?_
  refine va_get (D := (dC, dI)) (ci := 11) (v := .ref gq172) (C := RX11) (T := TX11) (N := 11) hx hb hts i_X11 hown hK hP 0 rfl rfl 6 (by decide) (hts _ qw203) (fun _ h9 => h9) rfl dX11_digest_90 ?_
  refine va_get (D := (dC, dI)) (ci := 10) (v := .ref gq173) (C := RX3) (T := TX3) (N := 20) hx hb hts i_X3 hown hK hP 2 rfl rfl 3 (by decide) (hts _ qw264) (fun _ h9 => h9) rfl dX11_digest_93 ?_
  refine lv_iload_n hx hb dX11_digest_96 rfl (lv_at hl 0 rfl) ?_
  refine va_iald hx hb hK hP 3 0 rfl rfl (by unfold vp_in; decide +kernel) dX11_digest_97 ?_
  refine lv_topC (y := 0) rfl ?_
  refine lv_i2l (v := 0) hx hb dX11_digest_98 (by decide) ?_
  refine lv_ladd hx hb dX11_digest_99 ?_
  refine lv_topCl (y := 268658448444218456) (by decide) ?_
  refine lv_lstore_n (lv' := [(1, .long 268658448444218456), (3, .int 8), (0, .ref gx)]) hx hb dX11_digest_100 rfl hl (by decide) rfl (fun ls hl => ?_)
  refine lv_iinc (v := 9) (lv' := [(3, .int 9), (1, .long 268658448444218456), (0, .ref gx)]) hx hb dX11_digest_101 hl (k := 1) rfl (by decide) (by decide) rfl (fun ls hl => ?_)
  refine lv_goto (tgt := 78) hx hb dX11_digest_104 (by decide) ?_
  refine lv_iload_n hx hb dX11_digest_78 rfl (lv_at hl 0 rfl) ?_
  refine lv_bipush (v := 16) hx hb dX11_digest_79 (by decide) ?_
  refine lv_icmp_ge (tgt := 107) hx hb dX11_digest_81 (by decide) (fun c => absurd c (by decide)) (fun _ => ?_)
  refine lv_lload_n hx hb dX11_digest_84 rfl (lv_at hl 1 rfl) ?_
  refine lv_ldc2 (v := 31) hx hb hown (hts _ qw268) dX11_digest_85 ?_
  refine lv_lmul hx hb dX11_digest_88 ?_
  refine lv_topCl (y := 8328411901770772136) (by decide) ?_
  refine lv_aload_n hx hb dX11_digest_89 rfl (lv_at hl 2 rfl) ?_
  refine va_get (D := (dC, dI)) (ci := 11) (v := .ref gq172) (C := RX11) (T := TX11) (N := 11) hx hb hts i_X11 hown hK hP 0 rfl rfl 6 (by decide) (hts _ qw203) (fun _ h9 => h9) rfl dX11_digest_90 ?_
  refine va_get (D := (dC, dI)) (ci := 10) (v := .ref gq173) (C := RX3) (T := TX3) (N := 20) hx hb hts i_X3 hown hK hP 2 rfl rfl 3 (by decide) (hts _ qw264) (fun _ h9 => h9) rfl dX11_digest_93 ?_
  refine lv_iload_n hx hb dX11_digest_96 rfl (lv_at hl 0 rfl) ?_
  refine va_iald hx hb hK hP 3 0 rfl rfl (by unfold vp_in; decide +kernel) dX11_digest_97 ?_
  refine lv_topC (y := 0) rfl ?_
  refine lv_i2l (v := 0) hx hb dX11_digest_98 (by decide) ?_
  refine lv_ladd hx hb dX11_digest_99 ?_
  refine lv_topCl (y := 8328411901770772136) (by decide) ?_
  refine lv_lstore_n (lv' := [(1, .long 8328411901770772136), (3, .int 9), (0, .ref gx)]) hx hb dX11_digest_100 rfl hl (by decide) rfl (fun ls hl => ?_)
  refine lv_iinc (v := 10) (lv' := [(3, .int 10), (1, .long 8328411901770772136), (0, .ref gx)]) hx hb dX11_digest_101 hl (k := 1) rfl (by decide) (by decide) rfl (fun ls hl => ?_)
  refine lv_goto (tgt := 78) hx hb dX11_digest_104 (by decide) ?_
  refine lv_iload_n hx hb dX11_digest_78 rfl (lv_at hl 0 rfl) ?_
  refine lv_bipush (v := 16) hx hb dX11_digest_79 (by decide) ?_
  refine lv_icmp_ge (tgt := 107) hx hb dX11_digest_81 (by decide) (fun c => absurd c (by decide)) (fun _ => ?_)
  refine lv_lload_n hx hb dX11_digest_84 rfl (lv_at hl 1 rfl) ?_
  refine lv_ldc2 (v := 31) hx hb hown (hts _ qw268) dX11_digest_85 ?_
  refine lv_lmul hx hb dX11_digest_88 ?_
  refine lv_topCl (y := (-73648077039786408)) (by decide) ?_
  refine lv_aload_n hx hb dX11_digest_89 rfl (lv_at hl 2 rfl) ?_
  refine va_get (D := (dC, dI)) (ci := 11) (v := .ref gq172) (C := RX11) (T := TX11) (N := 11) hx hb hts i_X11 hown hK hP 0 rfl rfl 6 (by decide) (hts _ qw203) (fun _ h9 => h9) rfl dX11_digest_90 ?_
  refine va_get (D := (dC, dI)) (ci := 10) (v := .ref gq173) (C := RX3) (T := TX3) (N := 20) hx hb hts i_X3 hown hK hP 2 rfl rfl 3 (by decide) (hts _ qw264) (fun _ h9 => h9) rfl dX11_digest_93 ?_
  refine lv_iload_n hx hb dX11_digest_96 rfl (lv_at hl 0 rfl) ?_
  refine va_iald hx hb hK hP 3 0 rfl rfl (by unfold vp_in; decide +kernel) dX11_digest_97 ?_
  refine lv_topC (y := 0) rfl ?_
  refine lv_i2l (v := 0) hx hb dX11_digest_98 (by decide) ?_
  refine lv_ladd hx hb dX11_digest_99 ?_
  refine lv_topCl (y := (-73648077039786408)) (by decide) ?_
  refine lv_lstore_n (lv' := [(1, .long (-73648077039786408)), (3, .int 10), (0, .ref gx)]) hx hb dX11_digest_100 rfl hl (by decide) rfl (fun ls hl => ?_)
  refine lv_iinc (v := 11) (lv' := [(3, .int 11), (1, .long (-73648077039786408)), (0, .ref gx)]) hx hb dX11_digest_101 hl (k := 1) rfl (by decide) (by decide) rfl (fun ls hl => ?_)
  refine lv_goto (tgt := 78) hx hb dX11_digest_104 (by decide) ?_
  refine lv_iload_n hx hb dX11_digest_78 rfl (lv_at hl 0 rfl) ?_
  refine lv_bipush (v := 16) hx hb dX11_digest_79 (by decide) ?_
  refine lv_icmp_ge (tgt := 107) hx hb dX11_digest_81 (by decide) (fun c => absurd c (by decide)) (fun _ => ?_)
  refine lv_lload_n hx hb dX11_digest_84 rfl (lv_at hl 1 rfl) ?_
  refine lv_ldc2 (v := 31) hx hb hown (hts _ qw268) dX11_digest_85 ?_
  refine lv_lmul hx hb dX11_digest_88 ?_
  refine lv_topCl (y := (-2283090388233378648)) (by decide) ?_
  refine lv_aload_n hx hb dX11_digest_89 rfl (lv_at hl 2 rfl) ?_
  refine va_get (D := (dC, dI)) (ci := 11) (v := .ref gq172) (C := RX11) (T := TX11) (N := 11) hx hb hts i_X11 hown hK hP 0 rfl rfl 6 (by decide) (hts _ qw203) (fun _ h9 => h9) rfl dX11_digest_90 ?_
  refine va_get (D := (dC, dI)) (ci := 10) (v := .ref gq173) (C := RX3) (T := TX3) (N := 20) hx hb hts i_X3 hown hK hP 2 rfl rfl 3 (by decide) (hts _ qw264) (fun _ h9 => h9) rfl dX11_digest_93 ?_
  refine lv_iload_n hx hb dX11_digest_96 rfl (lv_at hl 0 rfl) ?_
  refine va_iald hx hb hK hP 3 0 rfl rfl (by unfold vp_in; decide +kernel) dX11_digest_97 ?_
  refine lv_topC (y := 0) rfl ?_
  refine lv_i2l (v := 0) hx hb dX11_digest_98 (by decide) ?_
  refine lv_ladd hx hb dX11_digest_99 ?_
  refine lv_topCl (y := (-2283090388233378648)) (by decide) ?_
  refine lv_lstore_n (lv' := [(1, .long (-2283090388233378648)), (3, .int 11), (0, .ref gx)]) hx hb dX11_digest_100 rfl hl (by decide) rfl (fun ls hl => ?_)
  refine lv_iinc (v := 12) (lv' := [(3, .int 12), (1, .long (-2283090388233378648)), (0, .ref gx)]) hx hb dX11_digest_101 hl (k := 1) rfl (by decide) (by decide) rfl (fun ls hl => ?_)
  refine lv_goto (tgt := 78) hx hb dX11_digest_104 (by decide) ?_
  refine lv_iload_n hx hb dX11_digest_78 rfl (lv_at hl 0 rfl) ?_
  refine lv_bipush (v := 16) hx hb dX11_digest_79 (by decide) ?_
  refine lv_icmp_ge (tgt := 107) hx hb dX11_digest_81 (by decide) (fun c => absurd c (by decide)) (fun _ => ?_)
  refine lv_lload_n hx hb dX11_digest_84 rfl (lv_at hl 1 rfl) ?_
  refine lv_ldc2 (v := 31) hx hb hown (hts _ qw268) dX11_digest_85 ?_
  refine lv_lmul hx hb dX11_digest_88 ?_
  refine lv_topCl (y := 3011174259603468376) (by decide) ?_
  refine lv_aload_n hx hb dX11_digest_89 rfl (lv_at hl 2 rfl) ?_
  refine va_get (D := (dC, dI)) (ci := 11) (v := .ref gq172) (C := RX11) (T := TX11) (N := 11) hx hb hts i_X11 hown hK hP 0 rfl rfl 6 (by decide) (hts _ qw203) (fun _ h9 => h9) rfl dX11_digest_90 ?_
  refine va_get (D := (dC, dI)) (ci := 10) (v := .ref gq173) (C := RX3) (T := TX3) (N := 20) hx hb hts i_X3 hown hK hP 2 rfl rfl 3 (by decide) (hts _ qw264) (fun _ h9 => h9) rfl dX11_digest_93 ?_
  refine lv_iload_n hx hb dX11_digest_96 rfl (lv_at hl 0 rfl) ?_
  refine va_iald hx hb hK hP 3 0 rfl rfl (by unfold vp_in; decide +kernel) dX11_digest_97 ?_
  refine lv_topC (y := 0) rfl ?_
  refine lv_i2l (v := 0) hx hb dX11_digest_98 (by decide) ?_
  refine lv_ladd hx hb dX11_digest_99 ?_
  refine lv_topCl (y := 3011174259603468376) (by decide) ?_
  refine lv_lstore_n (lv' := [(1, .long 3011174259603468376), (3, .int 12), (0, .ref gx)]) hx hb dX11_digest_100 rfl hl (by decide) rfl (fun ls hl => ?_)
  refine lv_iinc (v := 13) (lv' := [(3, .int 13), (1, .long 3011174259603468376), (0, .ref gx)]) hx hb dX11_digest_101 hl (k := 1) rfl (by decide) (by decide) rfl (fun ls hl => ?_)
  refine lv_goto (tgt := 78) hx hb dX11_digest_104 (by decide) ?_
  refine lv_iload_n hx hb dX11_digest_78 rfl (lv_at hl 0 rfl) ?_
  refine lv_bipush (v := 16) hx hb dX11_digest_79 (by decide) ?_
  refine lv_icmp_ge (tgt := 107) hx hb dX11_digest_81 (by decide) (fun c => absurd c (by decide)) (fun _ => ?_)
  refine lv_lload_n hx hb dX11_digest_84 rfl (lv_at hl 1 rfl) ?_
  refine lv_ldc2 (v := 31) hx hb hown (hts _ qw268) dX11_digest_85 ?_
  refine lv_lmul hx hb dX11_digest_88 ?_
  refine lv_topCl (y := 1112681679159761576) (by decide) ?_
  refine lv_aload_n hx hb dX11_digest_89 rfl (lv_at hl 2 rfl) ?_
  refine va_get (D := (dC, dI)) (ci := 11) (v := .ref gq172) (C := RX11) (T := TX11) (N := 11) hx hb hts i_X11 hown hK hP 0 rfl rfl 6 (by decide) (hts _ qw203) (fun _ h9 => h9) rfl dX11_digest_90 ?_
  refine va_get (D := (dC, dI)) (ci := 10) (v := .ref gq173) (C := RX3) (T := TX3) (N := 20) hx hb hts i_X3 hown hK hP 2 rfl rfl 3 (by decide) (hts _ qw264) (fun _ h9 => h9) rfl dX11_digest_93 ?_
  refine lv_iload_n hx hb dX11_digest_96 rfl (lv_at hl 0 rfl) ?_
  refine va_iald hx hb hK hP 3 0 rfl rfl (by unfold vp_in; decide +kernel) dX11_digest_97 ?_
  refine lv_topC (y := 0) rfl ?_
  refine lv_i2l (v := 0) hx hb dX11_digest_98 (by decide) ?_
  refine lv_ladd hx hb dX11_digest_99 ?_
  refine lv_topCl (y := 1112681679159761576) (by decide) ?_
  refine lv_lstore_n (lv' := [(1, .long 1112681679159761576), (3, .int 13), (0, .ref gx)]) hx hb dX11_digest_100 rfl hl (by decide) rfl (fun ls hl => ?_)
  refine lv_iinc (v := 14) (lv' := [(3, .int 14), (1, .long 1112681679159761576), (0, .ref gx)]) hx hb dX11_digest_101 hl (k := 1) rfl (by decide) (by decide) rfl (fun ls hl => ?_)
  refine lv_goto (tgt := 78) hx hb dX11_digest_104 (by decide) ?_
  refine lv_iload_n hx hb dX11_digest_78 rfl (lv_at hl 0 rfl) ?_
  refine lv_bipush (v := 16) hx hb dX11_digest_79 (by decide) ?_
  refine lv_icmp_ge (tgt := 107) hx hb dX11_digest_81 (by decide) (fun c => absurd c (by decide)) (fun _ => ?_)
  refine lv_lload_n hx hb dX11_digest_84 rfl (lv_at hl 1 rfl) ?_
  refine lv_ldc2 (v := 31) hx hb hown (hts _ qw268) dX11_digest_85 ?_
  refine lv_lmul hx hb dX11_digest_88 ?_
  refine lv_topCl (y := (-2400356093466494376)) (by decide) ?_
  refine lv_aload_n hx hb dX11_digest_89 rfl (lv_at hl 2 rfl) ?_
  refine va_get (D := (dC, dI)) (ci := 11) (v := .ref gq172) (C := RX11) (T := TX11) (N := 11) hx hb hts i_X11 hown hK hP 0 rfl rfl 6 (by decide) (hts _ qw203) (fun _ h9 => h9) rfl dX11_digest_90 ?_
  refine va_get (D := (dC, dI)) (ci := 10) (v := .ref gq173) (C := RX3) (T := TX3) (N := 20) hx hb hts i_X3 hown hK hP 2 rfl rfl 3 (by decide) (hts _ qw264) (fun _ h9 => h9) rfl dX11_digest_93 ?_
  refine lv_iload_n hx hb dX11_digest_96 rfl (lv_at hl 0 rfl) ?_
  refine va_iald hx hb hK hP 3 0 rfl rfl (by unfold vp_in; decide +kernel) dX11_digest_97 ?_
  refine lv_topC (y := 0) rfl ?_
  refine lv_i2l (v := 0) hx hb dX11_digest_98 (by decide) ?_
  refine lv_ladd hx hb dX11_digest_99 ?_
  refine lv_topCl (y := (-2400356093466494376)) (by decide) ?_
  refine lv_lstore_n (lv' := [(1, .long (-2400356093466494376)), (3, .int 14), (0, .ref gx)]) hx hb dX11_digest_100 rfl hl (by decide) rfl (fun ls hl => ?_)
  refine lv_iinc (v := 15) (lv' := [(3, .int 15), (1, .long (-2400356093466494376)), (0, .ref gx)]) hx hb dX11_digest_101 hl (k := 1) rfl (by decide) (by decide) rfl (fun ls hl => ?_)
  refine lv_goto (tgt := 78) hx hb dX11_digest_104 (by decide) ?_
  refine lv_iload_n hx hb dX11_digest_78 rfl (lv_at hl 0 rfl) ?_
  refine lv_bipush (v := 16) hx hb dX11_digest_79 (by decide) ?_
  refine lv_icmp_ge (tgt := 107) hx hb dX11_digest_81 (by decide) (fun c => absurd c (by decide)) (fun _ => ?_)
  refine lv_lload_n hx hb dX11_digest_84 rfl (lv_at hl 1 rfl) ?_
  refine lv_ldc2 (v := 31) hx hb hown (hts _ qw268) dX11_digest_85 ?_
  refine lv_lmul hx hb dX11_digest_88 ?_
  refine lv_topCl (y := (-624062602623119192)) (by decide) ?_
  refine lv_aload_n hx hb dX11_digest_89 rfl (lv_at hl 2 rfl) ?_
  refine va_get (D := (dC, dI)) (ci := 11) (v := .ref gq172) (C := RX11) (T := TX11) (N := 11) hx hb hts i_X11 hown hK hP 0 rfl rfl 6 (by decide) (hts _ qw203) (fun _ h9 => h9) rfl dX11_digest_90 ?_
  refine va_get (D := (dC, dI)) (ci := 10) (v := .ref gq173) (C := RX3) (T := TX3) (N := 20) hx hb hts i_X3 hown hK hP 2 rfl rfl 3 (by decide) (hts _ qw264) (fun _ h9 => h9) rfl dX11_digest_93 ?_
  refine lv_iload_n hx hb dX11_digest_96 rfl (lv_at hl 0 rfl) ?_
  refine va_iald hx hb hK hP 3 0 rfl rfl (by unfold vp_in; decide +kernel) dX11_digest_97 ?_
  refine lv_topC (y := 0) rfl ?_
  refine lv_i2l (v := 0) hx hb dX11_digest_98 (by decide) ?_
  refine lv_ladd hx hb dX11_digest_99 ?_
  refine lv_topCl (y := (-624062602623119192)) (by decide) ?_
  refine lv_lstore_n (lv' := [(1, .long (-624062602623119192)), (3, .int 15), (0, .ref gx)]) hx hb dX11_digest_100 rfl hl (by decide) rfl (fun ls hl => ?_)
  refine lv_iinc (v := 16) (lv' := [(3, .int 16), (1, .long (-624062602623119192)), (0, .ref gx)]) hx hb dX11_digest_101 hl (k := 1) rfl (by decide) (by decide) rfl (fun ls hl => ?_)
  refine lv_goto (tgt := 78) hx hb dX11_digest_104 (by decide) ?_
  refine lv_iload_n hx hb dX11_digest_78 rfl (lv_at hl 0 rfl) ?_
  refine lv_bipush (v := 16) hx hb dX11_digest_79 (by decide) ?_
  refine lv_icmp_ge (tgt := 107) hx hb dX11_digest_81 (by decide) (fun _ => ?_) (fun c => absurd (by decide) c)
  refine lv_iconst (v := 0) hx hb dX11_digest_107 (by decide) ?_
  refine lv_istore_n (lv' := [(3, .int 0), (1, .long (-624062602623119192)), (0, .ref gx)]) hx hb dX11_digest_108 rfl hl (by decide) rfl (fun ls hl => ?_)
  refine lv_iload_n hx hb dX11_digest_109 rfl (lv_at hl 0 rfl) ?_
  refine lv_aload_n hx hb dX11_digest_110 rfl (lv_at hl 2 rfl) ?_
  refine va_get (D := (dC, dI)) (ci := 11) (v := .ref gq150) (C := RX11) (T := TX11) (N := 11) hx hb hts i_X11 hown hK hP 0 rfl rfl 8 (by decide) (hts _ qw195) (fun _ h9 => h9) rfl dX11_digest_111 ?_
  refine va_get (D := (dC, dI)) (ci := 2) (v := .int 0) (C := RX6) (T := TX6) (N := 13) hx hb hts i_X6 hown hK hP 1 rfl rfl 0 (by decide) (hts _ qw215) (fun _ h9 => h9) rfl dX11_digest_114 ?_
  refine lv_icmp_ge (tgt := 133) hx hb dX11_digest_117 (by decide) (fun _ => ?_) (fun c => absurd (by decide) c)
  refine lv_lload_n hx hb dX11_digest_133 rfl (lv_at hl 1 rfl) ?_
  have hP9 : va_P (dC, dI) cls [] s.heap := hP.sub [] rfl
  have hD9 : va_D A [] := hD.sub [] (by decide) rfl
  have hK9 : va_K (dC, dI) cls [] s := hK.sub [] rfl
  exact W.lret (v := (-624062602623119192)) hx hb hr (fun t ht hW => ⟨⟨(-624062602623119192), (), rfl, rfl, ⟨by rw [ht]; exact hP9, va_K.moved hW.alike hK9, hD9⟩⟩, hS.F ht⟩) hS.2.2 dX11_digest_134
