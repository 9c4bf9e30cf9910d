abbrev cJ7_checkLength_df160 : ByteArray := prog_48_method_131_code
def yJ7_checkLength_df160 : MethodName := ⟨RJ7, "checkLength", "(II)V"⟩
abbrev cJ4_length_8abf5 : ByteArray := prog_43_method_93_code
def yJ4_length_8abf5 : MethodName := ⟨RJ4, "length", "()I"⟩
abbrev cJ5_length_8abf5 : ByteArray := prog_30_method_6_code
def yJ5_length_8abf5 : MethodName := ⟨RJ5, "length", "()I"⟩
abbrev cJ7_copyOfRangeByte_39247 : ByteArray := prog_48_method_133_code
def yJ7_copyOfRangeByte_39247 : MethodName := ⟨RJ7, "copyOfRangeByte", "([BII)[B"⟩
abbrev cJ7_copyOfRange_39247 : ByteArray := prog_48_method_132_code
def yJ7_copyOfRange_39247 : MethodName := ⟨RJ7, "copyOfRange", "([BII)[B"⟩
abbrev cJ5_getValue_6d5f1 : ByteArray := prog_30_method_64_code
def yJ5_getValue_6d5f1 : MethodName := ⟨RJ5, "getValue", "()[B"⟩
abbrev cJ0_init_db425 : ByteArray := prog_42_method_150_code
def yJ0_init_db425 : MethodName := ⟨RJ0, "<init>", "(Ljava/lang/AbstractStringBuilder;Ljava/lang/Void;)V"⟩
abbrev cJ0_init_81219 : ByteArray := prog_42_method_53_code
def yJ0_init_81219 : MethodName := ⟨RJ0, "<init>", "(Ljava/lang/StringBuilder;)V"⟩
abbrev cJ4_toString_0e30d : ByteArray := prog_43_method_42_code
def yJ4_toString_0e30d : MethodName := ⟨RJ4, "toString", "()Ljava/lang/String;"⟩
theorem dJ0_init_81219_0 : decode cJ0_init_81219 0 = .ok (.aload_n 0, 1) := by decide +kernel
theorem dJ0_init_81219_1 : decode cJ0_init_81219 1 = .ok (.aload_n 1, 1) := by decide +kernel
theorem dJ0_init_81219_2 : decode cJ0_init_81219 2 = .ok (.aconst_null, 1) := by decide +kernel
theorem dJ0_init_81219_3 : decode cJ0_init_81219 3 = .ok (.invokespecial 489, 3) := by decide +kernel
theorem dJ0_init_81219_6 : decode cJ0_init_81219 6 = .ok (.return_, 1) := by decide +kernel
theorem dJ0_init_db425_0 : decode cJ0_init_db425 0 = .ok (.aload_n 0, 1) := by decide +kernel
theorem dJ0_init_db425_1 : decode cJ0_init_db425 1 = .ok (.invokespecial 1, 3) := by decide +kernel
theorem dJ0_init_db425_4 : decode cJ0_init_db425 4 = .ok (.aload_n 1, 1) := by decide +kernel
theorem dJ0_init_db425_5 : decode cJ0_init_db425 5 = .ok (.invokevirtual 552, 3) := by decide +kernel
theorem dJ0_init_db425_8 : decode cJ0_init_db425 8 = .ok (.astore_n 3, 1) := by decide +kernel
theorem dJ0_init_db425_9 : decode cJ0_init_db425 9 = .ok (.aload_n 1, 1) := by decide +kernel
theorem dJ0_init_db425_10 : decode cJ0_init_db425 10 = .ok (.invokevirtual 549, 3) := by decide +kernel
theorem dJ0_init_db425_13 : decode cJ0_init_db425 13 = .ok (.istore 4, 2) := by decide +kernel
theorem dJ0_init_db425_15 : decode cJ0_init_db425 15 = .ok (.aload_n 1, 1) := by decide +kernel
theorem dJ0_init_db425_16 : decode cJ0_init_db425 16 = .ok (.invokevirtual 1047, 3) := by decide +kernel
theorem dJ0_init_db425_19 : decode cJ0_init_db425 19 = .ok (.ifCond .eq 22, 3) := by decide +kernel
theorem dJ0_init_db425_22 : decode cJ0_init_db425 22 = .ok (.aload_n 0, 1) := by decide +kernel
theorem dJ0_init_db425_23 : decode cJ0_init_db425 23 = .ok (.iconst 0, 1) := by decide +kernel
theorem dJ0_init_db425_24 : decode cJ0_init_db425 24 = .ok (.putfield 15, 3) := by decide +kernel
theorem dJ0_init_db425_27 : decode cJ0_init_db425 27 = .ok (.aload_n 0, 1) := by decide +kernel
theorem dJ0_init_db425_28 : decode cJ0_init_db425 28 = .ok (.aload_n 3, 1) := by decide +kernel
theorem dJ0_init_db425_29 : decode cJ0_init_db425 29 = .ok (.iconst 0, 1) := by decide +kernel
theorem dJ0_init_db425_30 : decode cJ0_init_db425 30 = .ok (.iload 4, 2) := by decide +kernel
theorem dJ0_init_db425_32 : decode cJ0_init_db425 32 = .ok (.invokestatic 54, 3) := by decide +kernel
theorem dJ0_init_db425_35 : decode cJ0_init_db425 35 = .ok (.putfield 9, 3) := by decide +kernel
theorem dJ0_init_db425_38 : decode cJ0_init_db425 38 = .ok (.goto 59, 3) := by decide +kernel
theorem dJ0_init_db425_97 : decode cJ0_init_db425 97 = .ok (.return_, 1) := by decide +kernel
theorem dJ4_length_8abf5_0 : decode cJ4_length_8abf5 0 = .ok (.aload_n 0, 1) := by decide +kernel
theorem dJ4_length_8abf5_1 : decode cJ4_length_8abf5 1 = .ok (.invokespecial 343, 3) := by decide +kernel
theorem dJ4_length_8abf5_4 : decode cJ4_length_8abf5 4 = .ok (.ireturn, 1) := by decide +kernel
theorem dJ4_toString_0e30d_0 : decode cJ4_toString_0e30d 0 = .ok (.new 18, 3) := by decide +kernel
theorem dJ4_toString_0e30d_3 : decode cJ4_toString_0e30d 3 = .ok (.dup, 1) := by decide +kernel
theorem dJ4_toString_0e30d_4 : decode cJ4_toString_0e30d 4 = .ok (.aload_n 0, 1) := by decide +kernel
theorem dJ4_toString_0e30d_5 : decode cJ4_toString_0e30d 5 = .ok (.invokespecial 137, 3) := by decide +kernel
theorem dJ4_toString_0e30d_8 : decode cJ4_toString_0e30d 8 = .ok (.areturn, 1) := by decide +kernel
theorem dJ5_getValue_6d5f1_0 : decode cJ5_getValue_6d5f1 0 = .ok (.aload_n 0, 1) := by decide +kernel
theorem dJ5_getValue_6d5f1_1 : decode cJ5_getValue_6d5f1 1 = .ok (.getfield 15, 3) := by decide +kernel
theorem dJ5_getValue_6d5f1_4 : decode cJ5_getValue_6d5f1 4 = .ok (.areturn, 1) := by decide +kernel
theorem dJ5_length_8abf5_0 : decode cJ5_length_8abf5 0 = .ok (.aload_n 0, 1) := by decide +kernel
theorem dJ5_length_8abf5_1 : decode cJ5_length_8abf5 1 = .ok (.getfield 79, 3) := by decide +kernel
theorem dJ5_length_8abf5_4 : decode cJ5_length_8abf5 4 = .ok (.ireturn, 1) := by decide +kernel
theorem dJ7_checkLength_df160_0 : decode cJ7_checkLength_df160 0 = .ok (.iload_n 1, 1) := by decide +kernel
theorem dJ7_checkLength_df160_1 : decode cJ7_checkLength_df160 1 = .ok (.iload_n 0, 1) := by decide +kernel
theorem dJ7_checkLength_df160_2 : decode cJ7_checkLength_df160 2 = .ok (.if_icmp .ge 35, 3) := by decide +kernel
theorem dJ7_checkLength_df160_37 : decode cJ7_checkLength_df160 37 = .ok (.return_, 1) := by decide +kernel
theorem dJ7_copyOfRangeByte_39247_0 : decode cJ7_copyOfRangeByte_39247 0 = .ok (.iload_n 1, 1) := by decide +kernel
theorem dJ7_copyOfRangeByte_39247_1 : decode cJ7_copyOfRangeByte_39247 1 = .ok (.iload_n 2, 1) := by decide +kernel
theorem dJ7_copyOfRangeByte_39247_2 : decode cJ7_copyOfRangeByte_39247 2 = .ok (.invokestatic 343, 3) := by decide +kernel
theorem dJ7_copyOfRangeByte_39247_5 : decode cJ7_copyOfRangeByte_39247 5 = .ok (.iload_n 2, 1) := by decide +kernel
theorem dJ7_copyOfRangeByte_39247_6 : decode cJ7_copyOfRangeByte_39247 6 = .ok (.iload_n 1, 1) := by decide +kernel
theorem dJ7_copyOfRangeByte_39247_7 : decode cJ7_copyOfRangeByte_39247 7 = .ok (.isub, 1) := by decide +kernel
theorem dJ7_copyOfRangeByte_39247_8 : decode cJ7_copyOfRangeByte_39247 8 = .ok (.istore_n 3, 1) := by decide +kernel
theorem dJ7_copyOfRangeByte_39247_9 : decode cJ7_copyOfRangeByte_39247 9 = .ok (.iload_n 3, 1) := by decide +kernel
theorem dJ7_copyOfRangeByte_39247_10 : decode cJ7_copyOfRangeByte_39247 10 = .ok (.newarray .byte, 2) := by decide +kernel
theorem dJ7_copyOfRangeByte_39247_12 : decode cJ7_copyOfRangeByte_39247 12 = .ok (.astore 4, 2) := by decide +kernel
theorem dJ7_copyOfRangeByte_39247_14 : decode cJ7_copyOfRangeByte_39247 14 = .ok (.aload_n 0, 1) := by decide +kernel
theorem dJ7_copyOfRangeByte_39247_15 : decode cJ7_copyOfRangeByte_39247 15 = .ok (.iload_n 1, 1) := by decide +kernel
theorem dJ7_copyOfRangeByte_39247_16 : decode cJ7_copyOfRangeByte_39247 16 = .ok (.aload 4, 2) := by decide +kernel
theorem dJ7_copyOfRangeByte_39247_18 : decode cJ7_copyOfRangeByte_39247 18 = .ok (.iconst 0, 1) := by decide +kernel
theorem dJ7_copyOfRangeByte_39247_19 : decode cJ7_copyOfRangeByte_39247 19 = .ok (.aload_n 0, 1) := by decide +kernel
theorem dJ7_copyOfRangeByte_39247_20 : decode cJ7_copyOfRangeByte_39247 20 = .ok (.arraylength, 1) := by decide +kernel
theorem dJ7_copyOfRangeByte_39247_21 : decode cJ7_copyOfRangeByte_39247 21 = .ok (.iload_n 1, 1) := by decide +kernel
theorem dJ7_copyOfRangeByte_39247_22 : decode cJ7_copyOfRangeByte_39247 22 = .ok (.isub, 1) := by decide +kernel
theorem dJ7_copyOfRangeByte_39247_23 : decode cJ7_copyOfRangeByte_39247 23 = .ok (.iload_n 3, 1) := by decide +kernel
theorem dJ7_copyOfRangeByte_39247_24 : decode cJ7_copyOfRangeByte_39247 24 = .ok (.invokestatic 304, 3) := by decide +kernel
theorem dJ7_copyOfRangeByte_39247_27 : decode cJ7_copyOfRangeByte_39247 27 = .ok (.invokestatic 150, 3) := by decide +kernel
theorem dJ7_copyOfRangeByte_39247_30 : decode cJ7_copyOfRangeByte_39247 30 = .ok (.aload 4, 2) := by decide +kernel
theorem dJ7_copyOfRangeByte_39247_32 : decode cJ7_copyOfRangeByte_39247 32 = .ok (.areturn, 1) := by decide +kernel
theorem dJ7_copyOfRange_39247_0 : decode cJ7_copyOfRange_39247 0 = .ok (.iload_n 1, 1) := by decide +kernel
theorem dJ7_copyOfRange_39247_1 : decode cJ7_copyOfRange_39247 1 = .ok (.ifCond .ne 9, 3) := by decide +kernel
theorem dJ7_copyOfRange_39247_4 : decode cJ7_copyOfRange_39247 4 = .ok (.iload_n 2, 1) := by decide +kernel
theorem dJ7_copyOfRange_39247_5 : decode cJ7_copyOfRange_39247 5 = .ok (.aload_n 0, 1) := by decide +kernel
theorem dJ7_copyOfRange_39247_6 : decode cJ7_copyOfRange_39247 6 = .ok (.arraylength, 1) := by decide +kernel
theorem dJ7_copyOfRange_39247_7 : decode cJ7_copyOfRange_39247 7 = .ok (.if_icmp .eq 10, 3) := by decide +kernel
theorem dJ7_copyOfRange_39247_10 : decode cJ7_copyOfRange_39247 10 = .ok (.aload_n 0, 1) := by decide +kernel
theorem dJ7_copyOfRange_39247_11 : decode cJ7_copyOfRange_39247 11 = .ok (.iload_n 1, 1) := by decide +kernel
theorem dJ7_copyOfRange_39247_12 : decode cJ7_copyOfRange_39247 12 = .ok (.iload_n 2, 1) := by decide +kernel
theorem dJ7_copyOfRange_39247_13 : decode cJ7_copyOfRange_39247 13 = .ok (.invokestatic 339, 3) := by decide +kernel
theorem dJ7_copyOfRange_39247_16 : decode cJ7_copyOfRange_39247 16 = .ok (.areturn, 1) := by decide +kernel
theorem dJ7_copyOfRange_39247_17 : decode cJ7_copyOfRange_39247 17 = .ok (.aload_n 0, 1) := by decide +kernel
theorem dJ7_copyOfRange_39247_18 : decode cJ7_copyOfRange_39247 18 = .ok (.invokevirtual 310, 3) := by decide +kernel
theorem dJ7_copyOfRange_39247_21 : decode cJ7_copyOfRange_39247 21 = .ok (.checkcast 311, 3) := by decide +kernel
theorem dJ7_copyOfRange_39247_24 : decode cJ7_copyOfRange_39247 24 = .ok (.areturn, 1) := by decide +kernel
theorem qw1636 : Cond.code yJ5_length_8abf5 cJ5_length_8abf5 1 (Option.some Jvm.ClassFile.FieldType.int) ∈ gw := mq_7 (i := 59) rfl rfl
theorem qw1637 : Cond.methodLink RJ4 343 yJ5_length_8abf5 ∈ gw := mq_7 (i := 58) rfl rfl
theorem qw1638 : Cond.sameMethod RJ5 RJ5 "length" "()I" ∈ gw := mq_7 (i := 54) rfl rfl
theorem qw1639 : Cond.instanceMethod yJ5_length_8abf5 ∈ gw := mq_7 (i := 53) rfl rfl
theorem qw1640 : Cond.methodLink RJ7 343 yJ7_checkLength_df160 ∈ gw := mq_7 (i := 67) rfl rfl
theorem qw1641 : Cond.static yJ7_checkLength_df160 ∈ gw := mq_7 (i := 68) rfl rfl
theorem qw1642 : Cond.code yJ7_checkLength_df160 cJ7_checkLength_df160 2 (Option.none : Option Jvm.ClassFile.FieldType) ∈ gw := mq_7 (i := 69) rfl rfl
theorem qw1643 : Cond.methodLink RJ7 310 ⟨"[B", "clone", "()Ljava/lang/Object;"⟩ ∈ gw := mq_6 (i := 196) rfl rfl
theorem qw1644 : Cond.sameMethod "[B" "java/lang/Object" "clone" "()Ljava/lang/Object;" ∈ gw := mq_6 (i := 197) rfl rfl
theorem qw1645 : Cond.native ⟨"java/lang/Object", "clone", "()Ljava/lang/Object;"⟩ ∈ gw := mq_6 (i := 105) rfl rfl
theorem qw1646 : Cond.instanceMethod ⟨"java/lang/Object", "clone", "()Ljava/lang/Object;"⟩ ∈ gw := mq_6 (i := 106) rfl rfl
theorem qw1647 : Cond.selects "[B" ⟨"[B", "clone", "()Ljava/lang/Object;"⟩ ⟨"java/lang/Object", "clone", "()Ljava/lang/Object;"⟩ ∈ gw := mq_6 (i := 198) rfl rfl
theorem qw1648 : Cond.classLink RJ7 311 "[B" ∈ gw := mq_6 (i := 200) rfl rfl
theorem qw1649 : Cond.methodLink RJ7 339 yJ7_copyOfRangeByte_39247 ∈ gw := mq_7 (i := 64) rfl rfl
theorem qw1650 : Cond.static yJ7_copyOfRangeByte_39247 ∈ gw := mq_7 (i := 65) rfl rfl
theorem qw1651 : Cond.code yJ7_copyOfRangeByte_39247 cJ7_copyOfRangeByte_39247 5 (Option.some (Jvm.ClassFile.FieldType.array Jvm.ClassFile.FieldType.byte)) ∈ gw := mq_7 (i := 66) rfl rfl
theorem qw1652 : Cond.methodLink RJ0 1 objectInit ∈ gw := mq_7 (i := 46) rfl rfl
theorem qw1653 : Cond.code yJ5_getValue_6d5f1 cJ5_getValue_6d5f1 1 (Option.some (Jvm.ClassFile.FieldType.array Jvm.ClassFile.FieldType.byte)) ∈ gw := mq_7 (i := 51) rfl rfl
theorem qw1654 : Cond.methodLink RJ0 552 yJ5_getValue_6d5f1 ∈ gw := mq_7 (i := 47) rfl rfl
theorem qw1655 : Cond.sameMethod RJ5 RJ5 "getValue" "()[B" ∈ gw := mq_7 (i := 49) rfl rfl
theorem qw1656 : Cond.selects RJ4 yJ5_getValue_6d5f1 yJ5_getValue_6d5f1 ∈ gw := mq_7 (i := 50) rfl rfl
theorem qw1657 : Cond.instanceMethod yJ5_getValue_6d5f1 ∈ gw := mq_7 (i := 48) rfl rfl
theorem qw1658 : Cond.code yJ4_length_8abf5 cJ4_length_8abf5 1 (Option.some Jvm.ClassFile.FieldType.int) ∈ gw := mq_7 (i := 57) rfl rfl
theorem qw1659 : Cond.methodLink RJ0 549 yJ5_length_8abf5 ∈ gw := mq_7 (i := 52) rfl rfl
theorem qw1660 : Cond.selects RJ4 yJ5_length_8abf5 yJ4_length_8abf5 ∈ gw := mq_7 (i := 55) rfl rfl
theorem qw1661 : Cond.instanceMethod yJ4_length_8abf5 ∈ gw := mq_7 (i := 56) rfl rfl
theorem qw1662 : Cond.methodLink RJ0 1047 yJ5_isLatin1_aae02 ∈ gw := mq_7 (i := 60) rfl rfl
theorem qw1663 : Cond.methodLink RJ0 54 yJ7_copyOfRange_39247 ∈ gw := mq_7 (i := 61) rfl rfl
theorem qw1664 : Cond.static yJ7_copyOfRange_39247 ∈ gw := mq_7 (i := 62) rfl rfl
theorem qw1665 : Cond.code yJ7_copyOfRange_39247 cJ7_copyOfRange_39247 3 (Option.some (Jvm.ClassFile.FieldType.array Jvm.ClassFile.FieldType.byte)) ∈ gw := mq_7 (i := 63) rfl rfl
theorem qw1666 : Cond.code yJ0_init_db425 cJ0_init_db425 5 (Option.none : Option Jvm.ClassFile.FieldType) ∈ gw := mq_7 (i := 45) rfl rfl
theorem qw1667 : Cond.methodLink RJ0 489 yJ0_init_db425 ∈ gw := mq_7 (i := 43) rfl rfl
theorem qw1668 : Cond.instanceMethod yJ0_init_db425 ∈ gw := mq_7 (i := 44) rfl rfl
theorem qw1669 : Cond.classLink RJ4 18 RJ0 ∈ gw := mq_7 (i := 38) rfl rfl
theorem qw1670 : Cond.instantiable RJ0 4 ∈ gw := mq_7 (i := 39) rfl rfl
theorem qw1671 : Cond.code yJ0_init_81219 cJ0_init_81219 2 (Option.none : Option Jvm.ClassFile.FieldType) ∈ gw := mq_7 (i := 42) rfl rfl
theorem qw1672 : Cond.methodLink RJ4 137 yJ0_init_81219 ∈ gw := mq_7 (i := 40) rfl rfl
theorem qw1673 : Cond.instanceMethod yJ0_init_81219 ∈ gw := mq_7 (i := 41) rfl rfl
/-- byte[] may be cloned -/
def cl9 : ZS := fun _ U _ => va_Nw (Cond.castable "[B" "java/lang/Cloneable") U
theorem cl9_m : EXM cl9 := fun A B s U H locs h hS hAB hU hW => va_Nw.warmC hW h
def fJ7_checkLength_df160 (p0 : Int32) (p1 : Int32) : Option Unit := (if p0 ≤ p1 then some () else none)
set_option maxHeartbeats 16000000 in
set_option maxRecDepth 100000 in
theorem kJ7_checkLength_df160 {zs : ZS} (l : Launch) (dC : Nat → ClassId) (dI : Nat → Nat → Nat) (p0 : Int32) (p1 : Int32) (sz : Nat) (o : Unit) (hrun : fJ7_checkLength_df160 p0 p1 = some o) : Met l yJ7_checkLength_df160 (wz yJ7_checkLength_df160 cJ7_checkLength_df160 2 (Option.none : Option Jvm.ClassFile.FieldType)) ({ frames := 0, cells := 0, slots := 0, locals := 0 } : Room) (va_Pc [.int p0, .int p1] (PRE zs dC dI (List.flatten ([] : List va_W)) (List.flatten ([] : List (List (ClassId × FieldType)))) sz)) (va_Qv (fun (_ : Unit) => True) (fun _ t => POST dC dI (List.flatten ([] : List va_W)) (List.flatten ([] : List (List (ClassId × FieldType)))) (va_A (List.flatten ([] : List va_W)) sz) t) (va_A (List.flatten ([] : List va_W)) sz)) 0 0 (va_A (List.flatten ([] : List va_W)) sz) := by
  refine Met.ofW (cc := cJ7_checkLength_df160) (maxL := 2) (ret := (Option.none : Option Jvm.ClassFile.FieldType)) (by decide) rfl ?_
  intro p e s m args below meth c s₁ B hml hv
  obtain ⟨rfl, hsz, hP, hK, hD0, hE⟩ := hv
  have hx := B.exec
  have hb := B.bytes
  have hr := B.returns
  have hts0 := atoms_spec (ws := wz yJ7_checkLength_df160 cJ7_checkLength_df160 2 (Option.none : Option Jvm.ClassFile.FieldType)) B.pre
  have hts : ∀ w ∈ gw, w.before _ s = true := fun w h => hts0 w (List.mem_cons_of_mem _ h)
  have hown : s.vm.findClass RJ7 = some m.cls := findClass_of_methodNamed B.named
  have hlocks := B.notSynchronized
  subst hsz
  have hD := hD0.self (sz := s.heap.size)
  refine gQ9 ?_
  intro Q hQ
  generalize hAe : va_A (List.flatten ([] : List va_W)) s.heap.size = A at hD hE hQ
  have hA : ∀ q : Nat, s.heap.size ≤ q → A q := fun q h => by rw [← hAe]; exact Or.inr h
  have hS : va_S A s.heap s.heap [] := va_S.rf
  have hP : va_P (dC, dI) cls (List.flatten ([] : List va_W)) s.heap := hP
  have hl := lv_entry ([.int p0, .int p1]) (n := 2) (Nat.le_of_ble_eq_true rfl)
  rw [lg_entry_eq]
  generalize (lg_sl ([.int p0, .int p1]) ++ List.replicate (2 - (lg_sl ([.int p0, .int p1])).length) Slot.unset).toArray = ls at hl ⊢
  have hl : lv_has ls 2 [(0, .int p0), (1, .int p1)] := hl
  obtain ⟨H, hHe⟩ : ∃ H, H = s.heap := ⟨_, rfl⟩
  obtain ⟨locs, hle⟩ : ∃ locs : List Loc, locs = [] := ⟨_, rfl⟩
  rw [← hHe] at hP
  have hS : va_S A s.heap H locs := by rw [hHe, hle]; exact hS
  show W p l e ({ frames := 0, cells := 0, slots := 0, locals := 0 } : Room) s m ([.int p0, .int p1] : List Value).toArray below meth c s.heap [] 0 0 Q (F0 m 0 ls [])
  rw [← hle]
  refine wH9 hHe ?_
  unfold fJ7_checkLength_df160 at hrun
  refine lv_iload_n hx hb dJ7_checkLength_df160_0 rfl (lv_at hl 1 rfl) ?_
  refine lv_iload_n hx hb dJ7_checkLength_df160_1 rfl (lv_at hl 0 rfl) ?_
  rcases br9 hrun with ⟨hc1, hrun⟩ | ⟨hc1, hrun⟩
  · refine lv_icmp_ge (tgt := 37) hx hb dJ7_checkLength_df160_2 (by decide) (fun _ => ?_) (fun c => absurd hc1 c)
    have ho9 : () = o := Option.some.inj hrun
    have hP9 : va_P (dC, dI) cls (List.flatten ([] : List va_W)) H := by first | exact hP | (rw [← ho9]; exact hP)
    have hD9 : va_D A (List.flatten ([] : List va_W)) := by first | exact hD | (rw [← ho9]; exact hD)
    subst hQ
    exact W.vret hx hb hr (fun t ht hW => ⟨⟨(), rfl, trivial, ⟨by rw [ht]; exact hP9, va_K.moved hW.alike hK, hD9⟩⟩, hS.F ht⟩) hS.2.2 dJ7_checkLength_df160_37
  · refine lv_icmp_ge (tgt := 37) hx hb dJ7_checkLength_df160_2 (by decide) (fun c => absurd c hc1) (fun _ => ?_)
    cases hrun
def fJ5_length_8abf5 (p0w : ST) : Option Int32 := some (p0w 0 3)
set_option maxHeartbeats 16000000 in
set_option maxRecDepth 100000 in
theorem kJ5_length_8abf5 {zs : ZS} (l : Launch) (dC : Nat → ClassId) (dI : Nat → Nat → Nat) (p0a : Nat → Nat) (p0k : Nat → ClassId) (p0n : Nat → Nat) (p0w : ST) (sz : Nat) (o : Int32) (hrun : fJ5_length_8abf5 p0w = some o) : Met l yJ5_length_8abf5 (wz yJ5_length_8abf5 cJ5_length_8abf5 1 (Option.some Jvm.ClassFile.FieldType.int)) ({ frames := 0, cells := 0, slots := 0, locals := 0 } : Room) (va_Pc [.ref (p0a 0)] (PRE zs dC dI (List.flatten ([(oJ4 (p0a 0) p0a p0k p0n p0w)] : List va_W)) (List.flatten ([(tJ4 p0k)] : List (List (ClassId × FieldType)))) sz)) (va_Qi (fun (r : Int32) (_ : Unit) => r = o) (fun _ t => POST dC dI (List.flatten ([(oJ4 (p0a 0) p0a p0k p0n p0w)] : List va_W)) (List.flatten ([(tJ4 p0k)] : List (List (ClassId × FieldType)))) (va_A (List.flatten ([(oJ4 (p0a 0) p0a p0k p0n p0w)] : List va_W)) sz) t) (va_A (List.flatten ([(oJ4 (p0a 0) p0a p0k p0n p0w)] : List va_W)) sz)) 0 0 (va_A (List.flatten ([(oJ4 (p0a 0) p0a p0k p0n p0w)] : List va_W)) sz) := by
  refine Met.ofW (cc := cJ5_length_8abf5) (maxL := 1) (ret := (Option.some Jvm.ClassFile.FieldType.int)) (by decide) rfl ?_
  intro p e s m args below meth c s₁ B hml hv
  obtain ⟨rfl, hsz, hP, hK, hD0, hE⟩ := hv
  have hx := B.exec
  have hb := B.bytes
  have hr := B.returns
  have hts0 := atoms_spec (ws := wz yJ5_length_8abf5 cJ5_length_8abf5 1 (Option.some Jvm.ClassFile.FieldType.int)) B.pre
  have hts : ∀ w ∈ gw, w.before _ s = true := fun w h => hts0 w (List.mem_cons_of_mem _ h)
  have hown : s.vm.findClass RJ5 = some m.cls := findClass_of_methodNamed B.named
  have hlocks := B.notSynchronized
  subst hsz
  have hD := hD0.self (sz := s.heap.size)
  refine gQ9 ?_
  intro Q hQ
  generalize hAe : va_A (List.flatten ([(oJ4 (p0a 0) p0a p0k p0n p0w)] : List va_W)) s.heap.size = A at hD hE hQ
  have hA : ∀ q : Nat, s.heap.size ≤ q → A q := fun q h => by rw [← hAe]; exact Or.inr h
  have hS : va_S A s.heap s.heap [] := va_S.rf
  have hP : va_P (dC, dI) cls (List.flatten ([(oJ4 (p0a 0) p0a p0k p0n p0w)] : List va_W)) s.heap := hP
  have hl := lv_entry ([.ref (p0a 0)]) (n := 1) (Nat.le_of_ble_eq_true rfl)
  rw [lg_entry_eq]
  generalize (lg_sl ([.ref (p0a 0)]) ++ List.replicate (1 - (lg_sl ([.ref (p0a 0)])).length) Slot.unset).toArray = ls at hl ⊢
  have hl : lv_has ls 1 [(0, .ref (p0a 0))] := hl
  obtain ⟨H, hHe⟩ : ∃ H, H = s.heap := ⟨_, rfl⟩
  obtain ⟨locs, hle⟩ : ∃ locs : List Loc, locs = [] := ⟨_, rfl⟩
  rw [← hHe] at hP
  have hS : va_S A s.heap H locs := by rw [hHe, hle]; exact hS
  show W p l e ({ frames := 0, cells := 0, slots := 0, locals := 0 } : Room) s m ([.ref (p0a 0)] : List Value).toArray below meth c s.heap [] 0 0 Q (F0 m 0 ls [])
  rw [← hle]
  refine wH9 hHe ?_
  unfold fJ5_length_8abf5 at hrun
  refine lv_aload_n hx hb dJ5_length_8abf5_0 rfl (lv_at hl 0 rfl) ?_
  refine va_get (D := (dC, dI)) (ci := 12) (v := .int (p0w 0 3)) (C := RJ4) (T := TJ4) (N := 4) hx hb hts i_J4 hown hK hP 0 rfl rfl 3 (by decide) (hts _ qw1237) (fun _ h9 => h9) rfl dJ5_length_8abf5_1 ?_
  have ho9 : (p0w 0 3) = o := Option.some.inj hrun
  have hP9 : va_P (dC, dI) cls (List.flatten ([(oJ4 (p0a 0) p0a p0k p0n p0w)] : List va_W)) H := by first | exact hP | (rw [← ho9]; exact hP)
  have hD9 : va_D A (List.flatten ([(oJ4 (p0a 0) p0a p0k p0n p0w)] : List va_W)) := by first | exact hD | (rw [← ho9]; exact hD)
  subst hQ
  exact W.iret (v := (p0w 0 3)) hx hb hr (fun t ht hW => ⟨⟨(p0w 0 3), (), rfl, (by rw [← ho9]), ⟨by rw [ht]; exact hP9, va_K.moved hW.alike hK, hD9⟩⟩, hS.F ht⟩) hS.2.2 dJ5_length_8abf5_4
def fJ4_length_8abf5 (p0w : ST) : Option Int32 := ((fJ5_length_8abf5 p0w).bind fun (o_1 : Int32) => some o_1)
set_option maxHeartbeats 16000000 in
set_option maxRecDepth 100000 in
theorem kJ4_length_8abf5 {zs : ZS} (l : Launch) (dC : Nat → ClassId) (dI : Nat → Nat → Nat) (p0a : Nat → Nat) (p0k : Nat → ClassId) (p0n : Nat → Nat) (p0w : ST) (sz : Nat) (o : Int32) (hrun : fJ4_length_8abf5 p0w = some o) : Met l yJ4_length_8abf5 (wz yJ4_length_8abf5 cJ4_length_8abf5 1 (Option.some Jvm.ClassFile.FieldType.int)) ({ frames := 1, cells := 0, slots := 0, locals := 20 } : Room) (va_Pc [.ref (p0a 0)] (PRE zs dC dI (List.flatten ([(oJ4 (p0a 0) p0a p0k p0n p0w)] : List va_W)) (List.flatten ([(tJ4 p0k)] : List (List (ClassId × FieldType)))) sz)) (va_Qi (fun (r : Int32) (_ : Unit) => r = o) (fun _ t => POST dC dI (List.flatten ([(oJ4 (p0a 0) p0a p0k p0n p0w)] : List va_W)) (List.flatten ([(tJ4 p0k)] : List (List (ClassId × FieldType)))) (va_A (List.flatten ([(oJ4 (p0a 0) p0a p0k p0n p0w)] : List va_W)) sz) t) (va_A (List.flatten ([(oJ4 (p0a 0) p0a p0k p0n p0w)] : List va_W)) sz)) 0 0 (va_A (List.flatten ([(oJ4 (p0a 0) p0a p0k p0n p0w)] : List va_W)) sz) := by
  refine Met.ofW (cc := cJ4_length_8abf5) (maxL := 1) (ret := (Option.some Jvm.ClassFile.FieldType.int)) (by decide) rfl ?_
  intro p e s m args below meth c s₁ B hml hv
  obtain ⟨rfl, hsz, hP, hK, hD0, hE⟩ := hv
  have hx := B.exec
  have hb := B.bytes
  have hr := B.returns
  have hts0 := atoms_spec (ws := wz yJ4_length_8abf5 cJ4_length_8abf5 1 (Option.some Jvm.ClassFile.FieldType.int)) B.pre
  have hts : ∀ w ∈ gw, w.before _ s = true := fun w h => hts0 w (List.mem_cons_of_mem _ h)
  have hown : s.vm.findClass RJ4 = some m.cls := findClass_of_methodNamed B.named
  have hlocks := B.notSynchronized
  subst hsz
  have hD := hD0.self (sz := s.heap.size)
  refine gQ9 ?_
  intro Q hQ
  generalize hAe : va_A (List.flatten ([(oJ4 (p0a 0) p0a p0k p0n p0w)] : List va_W)) s.heap.size = A at hD hE hQ
  have hA : ∀ q : Nat, s.heap.size ≤ q → A q := fun q h => by rw [← hAe]; exact Or.inr h
  have hS : va_S A s.heap s.heap [] := va_S.rf
  have hP : va_P (dC, dI) cls (List.flatten ([(oJ4 (p0a 0) p0a p0k p0n p0w)] : List va_W)) s.heap := hP
  have hl := lv_entry ([.ref (p0a 0)]) (n := 1) (Nat.le_of_ble_eq_true rfl)
  rw [lg_entry_eq]
  generalize (lg_sl ([.ref (p0a 0)]) ++ List.replicate (1 - (lg_sl ([.ref (p0a 0)])).length) Slot.unset).toArray = ls at hl ⊢
  have hl : lv_has ls 1 [(0, .ref (p0a 0))] := hl
  obtain ⟨H, hHe⟩ : ∃ H, H = s.heap := ⟨_, rfl⟩
  obtain ⟨locs, hle⟩ : ∃ locs : List Loc, locs = [] := ⟨_, rfl⟩
  rw [← hHe] at hP
  have hS : va_S A s.heap H locs := by rw [hHe, hle]; exact hS
  show W p l e ({ frames := 1, cells := 0, slots := 0, locals := 20 } : Room) s m ([.ref (p0a 0)] : List Value).toArray below meth c s.heap [] 0 0 Q (F0 m 0 ls [])
  rw [← hle]
  refine wH9 hHe ?_
  unfold fJ4_length_8abf5 at hrun
  refine lv_aload_n hx hb dJ4_length_8abf5_0 rfl (lv_at hl 0 rfl) ?_
  obtain ⟨o_1, hc_1, hrun⟩ := bnd9 hrun
  have hPx : va_P (dC, dI) cls ((List.flatten ([(oJ4 (p0a 0) p0a p0k p0n p0w)] : List va_W)) ++ (List.flatten ([] : List va_W))) H := vP_fa (vP_perm hP (bP (List.Perm.refl _)))
  have hDx : va_D A ((List.flatten ([(oJ4 (p0a 0) p0a p0k p0n p0w)] : List va_W)) ++ (List.flatten ([] : List va_W))) := vD_fa (vD_perm hD (bP (List.Perm.refl _)))
  have hKx : va_K (dC, dI) cls ((List.flatten ([(tJ4 p0k)] : List (List (ClassId × FieldType)))) ++ (List.flatten ([] : List (List (ClassId × FieldType))))) s := vK_fa (vK_perm hK (bP (List.Perm.refl _)))
  have hPc := vP_l hPx
  have hDc := vD_l hDx
  have hKc := vK_l hKx
  have hFc := vfree hDx hS hA
  refine va_calli (va_runSU ((hK.1 12 _ rfl).2) (As := []) (rest := []) ⟨hx, hb, hml, hown, hts⟩ (kJ5_length_8abf5 l dC dI (p0a := p0a) (p0k := p0k) (p0n := p0n) (p0w := p0w) (sz := _) (o := o_1) (hrun := hc_1)) (va_cwSU 0 hts (gi_SU qw1637 qw1638 qw1263 qw1639 qw1219 (gi_z qw1636)) rfl rfl rfl (by decide +kernel) ⟨Nat.le_of_ble_eq_true rfl, Nat.le_of_ble_eq_true rfl⟩) ⟨PRE.blind, va_recv hKc hPc (ci := 12) (q0 := 0) rfl rfl, PRE.of hE hS hFc hPc hKc hDc⟩ rfl rfl hl.1 rfl (lv_room (Nat.le_of_ble_eq_true rfl)) dJ4_length_8abf5_1 ⟨(Nat.le_of_ble_eq_true rfl), (Nat.le_of_ble_eq_true rfl)⟩) hS (fun q _ h => hFc q h) hFc (fun r2 u t H locs ht hvm hw hB hz1 hk1 hS => ?_)
  obtain ⟨b1, b2, b3⟩ := hB
  rw [ht] at b1
  obtain ⟨hP, hD, hK⟩ := JOINC (wc := (List.flatten ([(oJ4 (p0a 0) p0a p0k p0n p0w)] : List va_W))) (wr := (List.flatten ([] : List va_W))) (w1 := (List.flatten ([(oJ4 (p0a 0) p0a p0k p0n p0w)] : List va_W))) (t1 := (List.flatten ([(tJ4 p0k)] : List (List (ClassId × FieldType))))) hPx hDx hKx hk1 hFc b1 (va_K.moved hvm.symm b2) b3
  have hP : va_P (dC, dI) cls (List.flatten ([(oJ4 (p0a 0) p0a p0k p0n p0w)] : List va_W)) H := vP_perm (vP_fb hP) (bP (List.Perm.refl _))
  have hD : va_D A (List.flatten ([(oJ4 (p0a 0) p0a p0k p0n p0w)] : List va_W)) := vD_perm (vD_fb hD) (bP (List.Perm.refl _))
  have hK : va_K (dC, dI) cls (List.flatten ([(tJ4 p0k)] : List (List (ClassId × FieldType)))) s := vK_perm (vK_fb hK) (bP (List.Perm.refl _))
  obtain rfl : o_1 = r2 := hw.symm
  have ho9 : o_1 = o := Option.some.inj hrun
  have hP9 : va_P (dC, dI) cls (List.flatten ([(oJ4 (p0a 0) p0a p0k p0n p0w)] : List va_W)) H := by first | exact hP | (rw [← ho9]; exact hP)
  have hD9 : va_D A (List.flatten ([(oJ4 (p0a 0) p0a p0k p0n p0w)] : List va_W)) := by first | exact hD | (rw [← ho9]; exact hD)
  subst hQ
  exact W.iret (v := o_1) hx hb hr (fun t ht hW => ⟨⟨o_1, (), rfl, (by rw [← ho9]), ⟨by rw [ht]; exact hP9, va_K.moved hW.alike hK, hD9⟩⟩, hS.F ht⟩) hS.2.2 dJ4_length_8abf5_4
set_option maxHeartbeats 16000000 in
set_option maxRecDepth 100000 in
theorem kJ7_crb {zs : ZS} (l : Launch) (dC : Nat → ClassId) (dI : Nat → Nat → Nat) (p0a : Nat) (k9 : ClassId) (K9 : Nat) (f9 : RI) (m9 : Nat) (hm : m9 ≤ K9) (hK6 : K9 ≤ 6000) (hf : ∀ j, fits .byte (.int (f9 j)) = true) (sz : Nat) : Met l yJ7_copyOfRangeByte_39247 (wz yJ7_copyOfRangeByte_39247 cJ7_copyOfRangeByte_39247 5 (Option.some (Jvm.ClassFile.FieldType.array Jvm.ClassFile.FieldType.byte))) ({ frames := 2, cells := 1, slots := m9, locals := 120 } : Room) (va_Pc [.ref p0a, .int 0, .int (pu_I m9)] (PRE zs dC dI (List.flatten ([[(p0a, .inl (k9, K9, .inl f9))]] : List va_W)) (List.flatten ([[(k9, .byte)]] : List (List (ClassId × FieldType)))) sz)) (va_Qr (fun (_ : Unit) => True) (fun _ ra t => ∃ (c2 : ClassId) (f2 : RI), (∀ j, j < m9 → f2 j = f9 j) ∧ (∀ j, fits .byte (.int (f2 j)) = true) ∧ POST dC dI (List.flatten ([[(p0a, .inl (k9, K9, .inl f9))], [(ra, .inl (c2, m9, .inl f2))]] : List va_W)) (List.flatten ([[(k9, .byte)], [(c2, .byte)]] : List (List (ClassId × FieldType)))) (va_A (List.flatten ([[(p0a, .inl (k9, K9, .inl f9))]] : List va_W)) sz) t) (va_A (List.flatten ([[(p0a, .inl (k9, K9, .inl f9))]] : List va_W)) sz)) 1 m9 (va_A (List.flatten ([[(p0a, .inl (k9, K9, .inl f9))]] : List va_W)) sz) := by
  have hnn : nn (pu_I m9) = m9 := pu_nn (by omega)
  have hKn : nn (Int32.ofNat K9) = K9 := pu_nn (by omega)
  have h09 : (0 : Int32) ≤ pu_I m9 := (pu_le (a := 0) (by decide) (by omega)).mpr (Nat.zero_le _)
  have e5 : (if pu_I m9 < Int32.ofNat K9 then pu_I m9 else Int32.ofNat K9) = pu_I m9 := by
    by_cases c : pu_I m9 < Int32.ofNat K9
    · rw [if_pos c]
    · rw [if_neg c]
      have c2 : ¬ m9 < K9 := fun q => c ((pu_lt (by omega) (by omega)).mpr q)
      exact congrArg pu_I (by omega)
  have hq3 : cpk 0 0 (pu_I m9) K9 m9 = true := decide_eq_true ⟨by decide, by decide, pu_ge (by omega), by rw [hnn]; show 0 + m9 ≤ K9; omega, by rw [hnn]; show 0 + m9 ≤ m9; omega⟩
  have hq4 : fbk f9 (nn 0) (nn (pu_I m9)) = true := List.all_eq_true.mpr fun i _ => hf _
  have hf2 : ∀ j, j < m9 → va_cpy f9 (fun _ => 0) (nn 0) (nn 0) (nn (pu_I m9)) j = f9 j := fun j hj => by
    rw [hnn]
    show (if 0 ≤ j ∧ j < 0 + m9 then f9 (0 + (j - 0)) else 0) = f9 j
    rw [if_pos ⟨Nat.zero_le _, by omega⟩, Nat.sub_zero, Nat.zero_add]
  have hf3 : ∀ j, fits .byte (.int (va_cpy f9 (fun _ => 0) (nn 0) (nn 0) (nn (pu_I m9)) j)) = true := fun j => by
    rw [hnn]
    show fits .byte (.int (if 0 ≤ j ∧ j < 0 + m9 then f9 (0 + (j - 0)) else 0)) = true
    by_cases d : 0 ≤ j ∧ j < 0 + m9
    · rw [if_pos d]; exact hf _
    · rw [if_neg d]; exact fb_1 0
  refine Met.ofW (cc := cJ7_copyOfRangeByte_39247) (maxL := 5) (ret := (Option.some (Jvm.ClassFile.FieldType.array Jvm.ClassFile.FieldType.byte))) (by decide) rfl ?_
  intro p e s m args below meth c s₁ B hml hv
  obtain ⟨rfl, hsz, hP, hK, hD0, hE⟩ := hv
  have hx := B.exec
  have hb := B.bytes
  have hr := B.returns
  have hts0 := atoms_spec (ws := wz yJ7_copyOfRangeByte_39247 cJ7_copyOfRangeByte_39247 5 (Option.some (Jvm.ClassFile.FieldType.array Jvm.ClassFile.FieldType.byte))) B.pre
  have hts : ∀ w ∈ gw, w.before _ s = true := fun w h => hts0 w (List.mem_cons_of_mem _ h)
  have hown : s.vm.findClass RJ7 = some m.cls := findClass_of_methodNamed B.named
  subst hsz
  have hD := hD0.self (sz := s.heap.size)
  refine gQ9 ?_
  intro Q hQ
  generalize hAe : va_A (List.flatten ([[(p0a, .inl (k9, K9, .inl f9))]] : List va_W)) s.heap.size = A at hD hE hQ
  have hA : ∀ q : Nat, s.heap.size ≤ q → A q := fun q h => by rw [← hAe]; exact Or.inr h
  have hS : va_S A s.heap s.heap [] := va_S.rf
  have hP : va_P (dC, dI) cls (List.flatten ([[(p0a, .inl (k9, K9, .inl f9))]] : List va_W)) s.heap := hP
  have hl := lv_entry ([.ref p0a, .int 0, .int (pu_I m9)]) (n := 5) (Nat.le_of_ble_eq_true rfl)
  rw [lg_entry_eq]
  generalize (lg_sl ([.ref p0a, .int 0, .int (pu_I m9)]) ++ List.replicate (5 - (lg_sl ([.ref p0a, .int 0, .int (pu_I m9)])).length) Slot.unset).toArray = ls at hl ⊢
  have hl : lv_has ls 5 [(0, .ref p0a), (1, .int 0), (2, .int (pu_I m9))] := hl
  obtain ⟨H, hHe⟩ : ∃ H, H = s.heap := ⟨_, rfl⟩
  obtain ⟨locs, hle⟩ : ∃ locs : List Loc, locs = [] := ⟨_, rfl⟩
  rw [← hHe] at hP
  have hS : va_S A s.heap H locs := by rw [hHe, hle]; exact hS
  show W p l e ({ frames := 2, cells := 1, slots := m9, locals := 120 } : Room) s m ([.ref p0a, .int 0, .int (pu_I m9)] : List Value).toArray below meth c s.heap [] 0 0 Q (F0 m 0 ls [])
  rw [← hle]
  refine wH9 hHe ?_
  refine lv_iload_n hx hb dJ7_copyOfRangeByte_39247_0 rfl (lv_at hl 1 rfl) ?_
  refine lv_iload_n hx hb dJ7_copyOfRangeByte_39247_1 rfl (lv_at hl 2 rfl) ?_
  have hPx : va_P (dC, dI) cls ((List.flatten ([] : List va_W)) ++ (List.flatten ([[(p0a, .inl (k9, K9, .inl f9))]] : List va_W))) H := vP_fa (vP_perm hP (bP (List.Perm.refl _)))
  have hDx : va_D A ((List.flatten ([] : List va_W)) ++ (List.flatten ([[(p0a, .inl (k9, K9, .inl f9))]] : List va_W))) := vD_fa (vD_perm hD (bP (List.Perm.refl _)))
  have hKx : va_K (dC, dI) cls ((List.flatten ([] : List (List (ClassId × FieldType)))) ++ (List.flatten ([[(k9, .byte)]] : List (List (ClassId × FieldType))))) s := vK_fa (vK_perm hK (bP (List.Perm.refl _)))
  have hPc := vP_l hPx
  have hDc := vD_l hDx
  have hKc := vK_l hKx
  have hFc := vfree hDx hS hA
  have hcl : fJ7_checkLength_df160 0 (pu_I m9) = some () := by
    unfold fJ7_checkLength_df160
    rw [if_pos h09]
  refine va_callv (va_runS (As := [.int 0, .int (pu_I m9)]) (rest := []) ⟨hx, hb, hml, hown, hts⟩ (kJ7_checkLength_df160 l dC dI (p0 := 0) (p1 := pu_I m9) (sz := _) (o := ()) (hrun := hcl)) (va_cwS 2 hts (gi_S qw1640 qw1641 qw109 (gi_z qw1642)) rfl rfl rfl (by decide +kernel) ⟨Nat.le_of_ble_eq_true rfl, Nat.le_of_ble_eq_true rfl⟩) ⟨PRE.blind, PRE.of hE hS hFc hPc hKc hDc⟩ rfl rfl hl.1 rfl (lv_room (Nat.le_of_ble_eq_true rfl)) dJ7_copyOfRangeByte_39247_2 ⟨(show 0 + 0 ≤ 1 from by omega), (show 0 + 0 ≤ m9 from by omega)⟩) hS (fun q _ h => hFc q h) hFc (fun u t H locs ht hvm hw hB hz1 hk1 hS => ?_)
  obtain ⟨b1, b2, b3⟩ := hB
  rw [ht] at b1
  obtain ⟨hP, hD, hK⟩ := JOINC (wc := (List.flatten ([] : List va_W))) (wr := (List.flatten ([[(p0a, .inl (k9, K9, .inl f9))]] : List va_W))) (w1 := (List.flatten ([] : List va_W))) (t1 := (List.flatten ([] : List (List (ClassId × FieldType))))) hPx hDx hKx hk1 hFc b1 (va_K.moved hvm.symm b2) b3
  have hP : va_P (dC, dI) cls (List.flatten ([[(p0a, .inl (k9, K9, .inl f9))]] : List va_W)) H := vP_fb hP
  have hD : va_D A (List.flatten ([[(p0a, .inl (k9, K9, .inl f9))]] : List va_W)) := vD_fb hD
  have hK : va_K (dC, dI) cls (List.flatten ([[(k9, .byte)]] : List (List (ClassId × FieldType)))) s := vK_fb hK
  refine lv_iload_n hx hb dJ7_copyOfRangeByte_39247_5 rfl (lv_at hl 2 rfl) ?_
  refine lv_iload_n hx hb dJ7_copyOfRangeByte_39247_6 rfl (lv_at hl 1 rfl) ?_
  refine lv_isub hx hb dJ7_copyOfRangeByte_39247_7 ?_
  have e0 : pu_I m9 - 0 = pu_I m9 := Int32.sub_zero _
  rw [e0]
  refine lv_istore_n (lv' := [(3, .int (pu_I m9)), (0, .ref p0a), (1, .int 0), (2, .int (pu_I m9))]) hx hb dJ7_copyOfRangeByte_39247_8 rfl hl (by decide) rfl (fun ls hl => ?_)
  refine lv_iload_n hx hb dJ7_copyOfRangeByte_39247_9 rfl (lv_at hl 0 rfl) ?_
  refine va_newa (atype := .byte) (ty := .byte) hx hb (hts _ qw1220) rfl hK hP hD hS hA (N' := m9) (a0 := (m9, .inl (fun _ => 0))) (fun _ => rfl) (pu_ge (by omega)) (pu_nn (by omega)) (by show m9 * 1 ≤ 536870912; omega) (show 0 + 1 ≤ 1 from by omega) (show 0 + m9 ≤ m9 from by omega) dJ7_copyOfRangeByte_39247_10 (fun q1 c1 H hK hP hD hS => ?_)
  have hP : va_P (dC, dI) cls (List.flatten ([[(p0a, .inl (k9, K9, .inl f9))], [(q1, .inl (c1, m9, .inl (fun _ => 0)))]] : List va_W)) H := hP
  have hD : va_D A (List.flatten ([[(p0a, .inl (k9, K9, .inl f9))], [(q1, .inl (c1, m9, .inl (fun _ => 0)))]] : List va_W)) := hD
  have hK : va_K (dC, dI) cls (List.flatten ([[(k9, .byte)], [(c1, .byte)]] : List (List (ClassId × FieldType)))) s := hK
  refine lv_astore (lv' := [(4, .ref q1), (3, .int (pu_I m9)), (0, .ref p0a), (1, .int 0), (2, .int (pu_I m9))]) hx hb dJ7_copyOfRangeByte_39247_12 hl (by decide) rfl (fun ls hl => ?_)
  refine lv_aload_n hx hb dJ7_copyOfRangeByte_39247_14 rfl (lv_at hl 2 rfl) ?_
  refine lv_iload_n hx hb dJ7_copyOfRangeByte_39247_15 rfl (lv_at hl 3 rfl) ?_
  refine lv_aload hx hb dJ7_copyOfRangeByte_39247_16 (lv_at hl 0 rfl) ?_
  refine lv_iconst (v := 0) hx hb dJ7_copyOfRangeByte_39247_18 (by decide) ?_
  refine lv_aload_n hx hb dJ7_copyOfRangeByte_39247_19 rfl (lv_at hl 2 rfl) ?_
  refine va_alen (v := (Int32.ofNat K9)) hx hb hK hP 0 0 rfl rfl rfl dJ7_copyOfRangeByte_39247_20 ?_
  refine lv_iload_n hx hb dJ7_copyOfRangeByte_39247_21 rfl (lv_at hl 3 rfl) ?_
  refine lv_isub hx hb dJ7_copyOfRangeByte_39247_22 ?_
  have e1 : Int32.ofNat K9 - 0 = Int32.ofNat K9 := Int32.sub_zero _
  rw [e1]
  refine lv_iload_n hx hb dJ7_copyOfRangeByte_39247_23 rfl (lv_at hl 1 rfl) ?_
  refine va_mmin hx hb (hml.trans hl.1.symm) hown (hts _ qw98) (hts _ qw99) (hts _ qw100) (hts _ qw101) (Nat.le_of_ble_eq_true rfl) (Nat.le_of_ble_eq_true rfl) (show 0 + 1 ≤ 1 from by omega) (show 0 + m9 ≤ m9 from by omega) dJ7_copyOfRangeByte_39247_24 ?_
  rw [e5]
  refine va_copyi (ty := .byte) (sp := 0) (dp := 0) (n := (pu_I m9)) hx hb (hml.trans hl.1.symm) hown (hts _ qw102) (hts _ qw103) (hts _ qw104) (hts _ qw105) hK hP hD hS 0 1 0 1 rfl rfl rfl rfl rfl (cpk_1 hq3) (cpk_2 hq3) (cpk_3 hq3) (cpk_4 hq3) (cpk_5 hq3) (fbk_i hq4) (Nat.le_of_ble_eq_true rfl) (Nat.le_of_ble_eq_true rfl) dJ7_copyOfRangeByte_39247_27 (fun H locs hP hD hS => ?_)
  have hP : va_P (dC, dI) cls (List.flatten ([[(p0a, .inl (k9, K9, .inl f9))], [(q1, .inl (c1, m9, .inl (va_cpy f9 (fun _ => 0) (nn 0) (nn 0) (nn (pu_I m9)))))]] : List va_W)) H := hP
  have hD : va_D A (List.flatten ([[(p0a, .inl (k9, K9, .inl f9))], [(q1, .inl (c1, m9, .inl (va_cpy f9 (fun _ => 0) (nn 0) (nn 0) (nn (pu_I m9)))))]] : List va_W)) := hD
  refine lv_aload hx hb dJ7_copyOfRangeByte_39247_30 (lv_at hl 0 rfl) ?_
  refine W.widen (k := 1) (n := m9) (by omega) (by omega) ?_
  subst hQ
  exact W.aret (v := .ref q1) (rt := .array .byte) hx hb hr (Or.inr ⟨_, rfl⟩) (Or.inr ⟨_, rfl⟩) (fun t ht hW => ⟨⟨(), q1, rfl, trivial, c1, (va_cpy f9 (fun _ => 0) (nn 0) (nn 0) (nn (pu_I m9))), hf2, hf3, by rw [ht]; exact hP, va_K.moved hW.alike hK, hD⟩, hS.F ht⟩) hS.2.2 dJ7_copyOfRangeByte_39247_32
set_option maxHeartbeats 16000000 in
set_option maxRecDepth 100000 in
theorem kJ7_cr {zs : ZS} (l : Launch) (dC : Nat → ClassId) (dI : Nat → Nat → Nat) (p0a : Nat) (k9 : ClassId) (K9 : Nat) (f9 : RI) (m9 : Nat) (hm : m9 ≤ K9) (hK6 : K9 ≤ 6000) (hf : ∀ j, fits .byte (.int (f9 j)) = true) (sz : Nat) : Met l yJ7_copyOfRange_39247 (wz yJ7_copyOfRange_39247 cJ7_copyOfRange_39247 3 (Option.some (Jvm.ClassFile.FieldType.array Jvm.ClassFile.FieldType.byte))) ({ frames := 3, cells := 1, slots := m9, locals := 160 } : Room) (va_Pc [.ref p0a, .int 0, .int (pu_I m9)] (PRE (zA zs cl9) dC dI (List.flatten ([[(p0a, .inl (k9, K9, .inl f9))]] : List va_W)) (List.flatten ([[(k9, .byte)]] : List (List (ClassId × FieldType)))) sz)) (va_Qr (fun (_ : Unit) => True) (fun _ ra t => ∃ (c2 : ClassId) (f2 : RI), (∀ j, j < m9 → f2 j = f9 j) ∧ (∀ j, fits .byte (.int (f2 j)) = true) ∧ POST dC dI (List.flatten ([[(p0a, .inl (k9, K9, .inl f9))], [(ra, .inl (c2, m9, .inl f2))]] : List va_W)) (List.flatten ([[(k9, .byte)], [(c2, .byte)]] : List (List (ClassId × FieldType)))) (va_A (List.flatten ([[(p0a, .inl (k9, K9, .inl f9))]] : List va_W)) sz) t) (va_A (List.flatten ([[(p0a, .inl (k9, K9, .inl f9))]] : List va_W)) sz)) 1 m9 (va_A (List.flatten ([[(p0a, .inl (k9, K9, .inl f9))]] : List va_W)) sz) := by
  refine Met.ofW (cc := cJ7_copyOfRange_39247) (maxL := 3) (ret := (Option.some (Jvm.ClassFile.FieldType.array Jvm.ClassFile.FieldType.byte))) (by decide) rfl ?_
  intro p e s m args below meth c s₁ B hml hv
  obtain ⟨rfl, hsz, hP, hK, hD0, hE⟩ := hv
  have hx := B.exec
  have hb := B.bytes
  have hr := B.returns
  have hts0 := atoms_spec (ws := wz yJ7_copyOfRange_39247 cJ7_copyOfRange_39247 3 (Option.some (Jvm.ClassFile.FieldType.array Jvm.ClassFile.FieldType.byte))) B.pre
  have hts : ∀ w ∈ gw, w.before _ s = true := fun w h => hts0 w (List.mem_cons_of_mem _ h)
  have hown : s.vm.findClass RJ7 = some m.cls := findClass_of_methodNamed B.named
  subst hsz
  have hD := hD0.self (sz := s.heap.size)
  refine gQ9 ?_
  intro Q hQ
  generalize hAe : va_A (List.flatten ([[(p0a, .inl (k9, K9, .inl f9))]] : List va_W)) s.heap.size = A at hD hE hQ
  have hA : ∀ q : Nat, s.heap.size ≤ q → A q := fun q h => by rw [← hAe]; exact Or.inr h
  have hS : va_S A s.heap s.heap [] := va_S.rf
  have hP : va_P (dC, dI) cls (List.flatten ([[(p0a, .inl (k9, K9, .inl f9))]] : List va_W)) s.heap := hP
  have hl := lv_entry ([.ref p0a, .int 0, .int (pu_I m9)]) (n := 3) (Nat.le_of_ble_eq_true rfl)
  rw [lg_entry_eq]
  generalize (lg_sl ([.ref p0a, .int 0, .int (pu_I m9)]) ++ List.replicate (3 - (lg_sl ([.ref p0a, .int 0, .int (pu_I m9)])).length) Slot.unset).toArray = ls at hl ⊢
  have hl : lv_has ls 3 [(0, .ref p0a), (1, .int 0), (2, .int (pu_I m9))] := hl
  obtain ⟨H, hHe⟩ : ∃ H, H = s.heap := ⟨_, rfl⟩
  obtain ⟨locs, hle⟩ : ∃ locs : List Loc, locs = [] := ⟨_, rfl⟩
  rw [← hHe] at hP
  have hS : va_S A s.heap H locs := by rw [hHe, hle]; exact hS
  show W p l e ({ frames := 3, cells := 1, slots := m9, locals := 160 } : Room) s m ([.ref p0a, .int 0, .int (pu_I m9)] : List Value).toArray below meth c s.heap [] 0 0 Q (F0 m 0 ls [])
  rw [← hle]
  refine wH9 hHe ?_
  refine lv_iload_n hx hb dJ7_copyOfRange_39247_0 rfl (lv_at hl 1 rfl) ?_
  refine lv_if_ne (tgt := 10) hx hb dJ7_copyOfRange_39247_1 (by decide) (fun c => absurd (by decide) c) (fun _ => ?_)
  refine lv_iload_n hx hb dJ7_copyOfRange_39247_4 rfl (lv_at hl 2 rfl) ?_
  refine lv_aload_n hx hb dJ7_copyOfRange_39247_5 rfl (lv_at hl 0 rfl) ?_
  refine va_alen (v := (Int32.ofNat K9)) hx hb hK hP 0 0 rfl rfl rfl dJ7_copyOfRange_39247_6 ?_
  by_cases hm9 : m9 = K9
  · subst hm9
    refine lv_icmp_eq (tgt := 17) hx hb dJ7_copyOfRange_39247_7 (by decide) (fun _ => ?_) (fun c => absurd rfl c)
    refine lv_aload_n hx hb dJ7_copyOfRange_39247_17 rfl (lv_at hl 0 rfl) ?_
    have hra := hK.2 0 _ rfl
    refine va_clone (own := RJ7) (ad := "[B") hx hb (hml.trans hl.1.symm) hown (hts _ qw1643) (hts _ qw1644) (hts _ qw1645) (hts _ qw1646) (hts _ qw1647) (ENV.ex hE).2 hK hP hD hS hA 0 0 rfl rfl (va_nm_byte hra.2) (va_fit (fun i _ => hf i)) (Nat.le_of_ble_eq_true rfl) (Nat.le_of_ble_eq_true rfl) (show 0 + 1 ≤ 1 from by omega) (show 0 + m9 ≤ m9 from by omega) dJ7_copyOfRange_39247_18 (fun q1 H hK hP hD hS => ?_)
    have hP : va_P (dC, dI) cls (List.flatten ([[(p0a, .inl (k9, m9, .inl f9))], [(q1, .inl (k9, m9, .inl f9))]] : List va_W)) H := hP
    have hD : va_D A (List.flatten ([[(p0a, .inl (k9, m9, .inl f9))], [(q1, .inl (k9, m9, .inl f9))]] : List va_W)) := hD
    have hK : va_K (dC, dI) cls (List.flatten ([[(k9, .byte)], [(k9, .byte)]] : List (List (ClassId × FieldType)))) s := hK
    refine va_castA hx hb hown (hts _ qw1648) hP 1 rfl (va_nm_byte hra.2) dJ7_copyOfRange_39247_21 ?_
    refine W.widen (k := 1) (n := m9) (by show 0 + 1 ≤ 1; omega) (by show 0 + m9 ≤ m9; omega) ?_
    subst hQ
    exact W.aret (v := .ref q1) (rt := .array .byte) hx hb hr (Or.inr ⟨_, rfl⟩) (Or.inr ⟨_, rfl⟩) (fun t ht hW => ⟨⟨(), q1, rfl, trivial, k9, f9, fun _ _ => rfl, hf, by rw [ht]; exact hP, va_K.moved hW.alike hK, hD⟩, hS.F ht⟩) hS.2.2 dJ7_copyOfRange_39247_24
  · have hne : ¬ pu_I m9 = Int32.ofNat K9 := fun q => hm9 (pu_inj (by omega) (by omega) q)
    refine lv_icmp_eq (tgt := 17) hx hb dJ7_copyOfRange_39247_7 (by decide) (fun c => absurd c hne) (fun _ => ?_)
    refine lv_aload_n hx hb dJ7_copyOfRange_39247_10 rfl (lv_at hl 0 rfl) ?_
    refine lv_iload_n hx hb dJ7_copyOfRange_39247_11 rfl (lv_at hl 1 rfl) ?_
    refine lv_iload_n hx hb dJ7_copyOfRange_39247_12 rfl (lv_at hl 2 rfl) ?_
    have hPx : va_P (dC, dI) cls ((List.flatten ([[(p0a, .inl (k9, K9, .inl f9))]] : List va_W)) ++ (List.flatten ([] : List va_W))) H := vP_fa (vP_perm hP (bP (List.Perm.refl _)))
    have hDx : va_D A ((List.flatten ([[(p0a, .inl (k9, K9, .inl f9))]] : List va_W)) ++ (List.flatten ([] : List va_W))) := vD_fa (vD_perm hD (bP (List.Perm.refl _)))
    have hKx : va_K (dC, dI) cls ((List.flatten ([[(k9, .byte)]] : List (List (ClassId × FieldType)))) ++ (List.flatten ([] : List (List (ClassId × FieldType))))) s := vK_fa (vK_perm hK (bP (List.Perm.refl _)))
    have hPc := vP_l hPx
    have hDc := vD_l hDx
    have hKc := vK_l hKx
    have hFc := vfree hDx hS hA
    refine va_callr (va_runS (As := [.ref p0a, .int 0, .int (pu_I m9)]) (rest := []) ⟨hx, hb, hml, hown, hts⟩ (kJ7_crb l dC dI p0a k9 K9 f9 m9 hm hK6 hf _) (va_cwS 3 hts (gi_S qw1649 qw1650 qw109 (gi_z qw1651)) rfl rfl rfl (by decide +kernel) ⟨Nat.le_of_ble_eq_true rfl, Nat.le_of_ble_eq_true rfl⟩) ⟨PRE.blind, PRE.of hE hS hFc hPc hKc hDc⟩ rfl rfl hl.1 rfl (lv_room (Nat.le_of_ble_eq_true rfl)) dJ7_copyOfRange_39247_13 ⟨(show 0 + 1 ≤ 1 from by omega), (show 0 + m9 ≤ m9 from by omega)⟩) hS (fun q _ h => hFc q h) hFc (fun u ra t H locs ht hvm hw hB hz1 hk1 hS => ?_)
    obtain ⟨c2, f2, hf2, hf3, b1, b2, b3⟩ := hB
    rw [ht] at b1
    obtain ⟨hP, hD, hK⟩ := JOINC (wc := (List.flatten ([[(p0a, .inl (k9, K9, .inl f9))]] : List va_W))) (wr := (List.flatten ([] : List va_W))) (w1 := (List.flatten ([[(p0a, .inl (k9, K9, .inl f9))], [(ra, .inl (c2, m9, .inl f2))]] : List va_W))) (t1 := (List.flatten ([[(k9, .byte)], [(c2, .byte)]] : List (List (ClassId × FieldType))))) hPx hDx hKx hk1 hFc b1 (va_K.moved hvm.symm b2) b3
    have hP : va_P (dC, dI) cls (List.flatten ([[(p0a, .inl (k9, K9, .inl f9))], [(ra, .inl (c2, m9, .inl f2))]] : List va_W)) H := vP_fb hP
    have hD : va_D A (List.flatten ([[(p0a, .inl (k9, K9, .inl f9))], [(ra, .inl (c2, m9, .inl f2))]] : List va_W)) := vD_fb hD
    have hK : va_K (dC, dI) cls (List.flatten ([[(k9, .byte)], [(c2, .byte)]] : List (List (ClassId × FieldType)))) s := vK_fb hK
    refine W.widen (k := 1) (n := m9) (by omega) (by omega) ?_
    subst hQ
    exact W.aret (v := .ref ra) (rt := .array .byte) hx hb hr (Or.inr ⟨_, rfl⟩) (Or.inr ⟨_, rfl⟩) (fun t ht hW => ⟨⟨(), ra, rfl, trivial, c2, f2, hf2, hf3, by rw [ht]; exact hP, va_K.moved hW.alike hK, hD⟩, hS.F ht⟩) hS.2.2 dJ7_copyOfRange_39247_16
set_option maxHeartbeats 16000000 in
set_option maxRecDepth 100000 in
theorem kJ5_gv {zs : ZS} (l : Launch) (dC : Nat → ClassId) (dI : Nat → Nat → Nat) (p0a : Nat → Nat) (p0k : Nat → ClassId) (p0n : Nat → Nat) (p0w : ST) (sz : Nat) : Met l yJ5_getValue_6d5f1 (wz yJ5_getValue_6d5f1 cJ5_getValue_6d5f1 1 (Option.some (Jvm.ClassFile.FieldType.array Jvm.ClassFile.FieldType.byte))) ({ frames := 0, cells := 0, slots := 0, locals := 0 } : Room) (va_Pc [.ref (p0a 0)] (PRE zs dC dI (List.flatten ([(oJ4 (p0a 0) p0a p0k p0n p0w)] : List va_W)) (List.flatten ([(tJ4 p0k)] : List (List (ClassId × FieldType)))) sz)) (va_Qr (fun (_ : Unit) => True) (fun _ ra t => ra = (p0a 1) ∧ POST dC dI (List.flatten ([(oJ4 (p0a 0) p0a p0k p0n p0w)] : List va_W)) (List.flatten ([(tJ4 p0k)] : List (List (ClassId × FieldType)))) (va_A (List.flatten ([(oJ4 (p0a 0) p0a p0k p0n p0w)] : List va_W)) sz) t) (va_A (List.flatten ([(oJ4 (p0a 0) p0a p0k p0n p0w)] : List va_W)) sz)) 0 0 (va_A (List.flatten ([(oJ4 (p0a 0) p0a p0k p0n p0w)] : List va_W)) sz) := by
  refine Met.ofW (cc := cJ5_getValue_6d5f1) (maxL := 1) (ret := (Option.some (Jvm.ClassFile.FieldType.array Jvm.ClassFile.FieldType.byte))) (by decide) rfl ?_
  intro p e s m args below meth c s₁ B hml hv
  obtain ⟨rfl, hsz, hP, hK, hD0, hE⟩ := hv
  have hx := B.exec
  have hb := B.bytes
  have hr := B.returns
  have hts0 := atoms_spec (ws := wz yJ5_getValue_6d5f1 cJ5_getValue_6d5f1 1 (Option.some (Jvm.ClassFile.FieldType.array Jvm.ClassFile.FieldType.byte))) B.pre
  have hts : ∀ w ∈ gw, w.before _ s = true := fun w h => hts0 w (List.mem_cons_of_mem _ h)
  have hown : s.vm.findClass RJ5 = some m.cls := findClass_of_methodNamed B.named
  subst hsz
  have hD := hD0.self (sz := s.heap.size)
  refine gQ9 ?_
  intro Q hQ
  generalize hAe : va_A (List.flatten ([(oJ4 (p0a 0) p0a p0k p0n p0w)] : List va_W)) s.heap.size = A at hD hE hQ
  have hA : ∀ q : Nat, s.heap.size ≤ q → A q := fun q h => by rw [← hAe]; exact Or.inr h
  have hS : va_S A s.heap s.heap [] := va_S.rf
  have hP : va_P (dC, dI) cls (List.flatten ([(oJ4 (p0a 0) p0a p0k p0n p0w)] : List va_W)) s.heap := hP
  have hl := lv_entry ([.ref (p0a 0)]) (n := 1) (Nat.le_of_ble_eq_true rfl)
  rw [lg_entry_eq]
  generalize (lg_sl ([.ref (p0a 0)]) ++ List.replicate (1 - (lg_sl ([.ref (p0a 0)])).length) Slot.unset).toArray = ls at hl ⊢
  have hl : lv_has ls 1 [(0, .ref (p0a 0))] := hl
  obtain ⟨H, hHe⟩ : ∃ H, H = s.heap := ⟨_, rfl⟩
  obtain ⟨locs, hle⟩ : ∃ locs : List Loc, locs = [] := ⟨_, rfl⟩
  rw [← hHe] at hP
  have hS : va_S A s.heap H locs := by rw [hHe, hle]; exact hS
  show W p l e ({ frames := 0, cells := 0, slots := 0, locals := 0 } : Room) s m ([.ref (p0a 0)] : List Value).toArray below meth c s.heap [] 0 0 Q (F0 m 0 ls [])
  rw [← hle]
  refine wH9 hHe ?_
  refine lv_aload_n hx hb dJ5_getValue_6d5f1_0 rfl (lv_at hl 0 rfl) ?_
  refine va_get (D := (dC, dI)) (ci := 12) (v := .ref (p0a 1)) (C := RJ4) (T := TJ4) (N := 4) hx hb hts i_J4 hown hK hP 0 rfl rfl 0 (by decide) (hts _ qw1210) (fun _ h9 => h9) rfl dJ5_getValue_6d5f1_1 ?_
  subst hQ
  exact W.aret (v := .ref (p0a 1)) (rt := .array .byte) hx hb hr (Or.inr ⟨_, rfl⟩) (Or.inr ⟨_, rfl⟩) (fun t ht hW => ⟨⟨(), p0a 1, rfl, trivial, rfl, by rw [ht]; exact hP, va_K.moved hW.alike hK, hD⟩, hS.F ht⟩) hS.2.2 dJ5_getValue_6d5f1_4
set_option maxHeartbeats 16000000 in
set_option maxRecDepth 100000 in
theorem kJ0_si2 {zs : ZS} (l : Launch) (dC : Nat → ClassId) (dI : Nat → Nat → Nat) (q0 : Nat) (p0a : Nat → Nat) (p0k : Nat → ClassId) (p0n : Nat → Nat) (p0w : ST) (K9 : Nat) (t9 : List Int32) (h : sb9 K9 p0n p0w t9) (sz : Nat) : Met l yJ0_init_db425 (wz yJ0_init_db425 cJ0_init_db425 5 (Option.none : Option Jvm.ClassFile.FieldType)) ({ frames := 4, cells := 1, slots := t9.length, locals := 200 } : Room) (va_Pc [.ref q0, .ref (p0a 0), .null] (PRE (zA zs cl9) dC dI (List.flatten ([[(q0, .inr (13, [.null, .int 0, .int 0, .int 0]))], (oJ4 (p0a 0) p0a p0k p0n p0w)] : List va_W)) (List.flatten ([[], (tJ4 p0k)] : List (List (ClassId × FieldType)))) sz)) (va_Qv (fun (_ : Unit) => True) (fun _ t => ∃ (v9 : Nat) (c9 : ClassId) (f9 : RI), (∀ j, j < t9.length → f9 j = t9.getD j 0) ∧ (∀ j, fits .byte (.int (f9 j)) = true) ∧ POST dC dI (List.flatten ([[(q0, .inr (13, [.ref v9, .int 0, .int 0, .int 0]))], [(v9, .inl (c9, t9.length, .inl f9))], (oJ4 (p0a 0) p0a p0k p0n p0w)] : List va_W)) (List.flatten ([[], [(c9, .byte)], (tJ4 p0k)] : List (List (ClassId × FieldType)))) (va_A (List.flatten ([[(q0, .inr (13, [.null, .int 0, .int 0, .int 0]))], (oJ4 (p0a 0) p0a p0k p0n p0w)] : List va_W)) sz) t) (va_A (List.flatten ([[(q0, .inr (13, [.null, .int 0, .int 0, .int 0]))], (oJ4 (p0a 0) p0a p0k p0n p0w)] : List va_W)) sz)) 1 t9.length (va_A (List.flatten ([[(q0, .inr (13, [.null, .int 0, .int 0, .int 0]))], (oJ4 (p0a 0) p0a p0k p0n p0w)] : List va_W)) sz) := by
  have hlen : fJ4_length_8abf5 p0w = some (pu_I t9.length) := by
    unfold fJ4_length_8abf5 fJ5_length_8abf5
    rw [h.2.1.2]
    rfl
  have hlat : fJ5_isLatin1_aae02 p0w = some 1 := by
    unfold fJ5_isLatin1_aae02
    rw [h.2.1.1]
    decide +kernel
  have hle9 : t9.length ≤ p0n 1 := by rw [h.1.1]; exact h.1.2.1
  have hK6 : p0n 1 ≤ 6000 := by rw [h.1.1]; exact h.1.2.2
  have hf9 := h.2.2.2.1
  refine Met.ofW (cc := cJ0_init_db425) (maxL := 5) (ret := (Option.none : Option Jvm.ClassFile.FieldType)) (by decide) rfl ?_
  intro p e s m args below meth c s₁ B hml hv
  obtain ⟨rfl, hsz, hP, hK, hD0, hE⟩ := hv
  have hx := B.exec
  have hb := B.bytes
  have hr := B.returns
  have hin : meth.name = "<init>" := (name_of_methodNamed B.named B.method).1
  have hts0 := atoms_spec (ws := wz yJ0_init_db425 cJ0_init_db425 5 (Option.none : Option Jvm.ClassFile.FieldType)) B.pre
  have hts : ∀ w ∈ gw, w.before _ s = true := fun w h => hts0 w (List.mem_cons_of_mem _ h)
  have hown : s.vm.findClass RJ0 = some m.cls := findClass_of_methodNamed B.named
  subst hsz
  have hD := hD0.self (sz := s.heap.size)
  refine gQ9 ?_
  intro Q hQ
  generalize hAe : va_A (List.flatten ([[(q0, .inr (13, [.null, .int 0, .int 0, .int 0]))], (oJ4 (p0a 0) p0a p0k p0n p0w)] : List va_W)) s.heap.size = A at hD hE hQ
  have hA : ∀ q : Nat, s.heap.size ≤ q → A q := fun q h => by rw [← hAe]; exact Or.inr h
  have hS : va_S A s.heap s.heap [] := va_S.rf
  have hP : va_P (dC, dI) cls (List.flatten ([[(q0, .inr (13, [.null, .int 0, .int 0, .int 0]))], (oJ4 (p0a 0) p0a p0k p0n p0w)] : List va_W)) s.heap := hP
  have hl := lv_entry ([.ref q0, .ref (p0a 0), .null]) (n := 5) (Nat.le_of_ble_eq_true rfl)
  rw [lg_entry_eq]
  generalize (lg_sl ([.ref q0, .ref (p0a 0), .null]) ++ List.replicate (5 - (lg_sl ([.ref q0, .ref (p0a 0), .null])).length) Slot.unset).toArray = ls at hl ⊢
  have hl : lv_has ls 5 [(0, .ref q0), (1, .ref (p0a 0)), (2, .null)] := hl
  obtain ⟨H, hHe⟩ : ∃ H, H = s.heap := ⟨_, rfl⟩
  obtain ⟨locs, hle⟩ : ∃ locs : List Loc, locs = [] := ⟨_, rfl⟩
  rw [← hHe] at hP
  have hS : va_S A s.heap H locs := by rw [hHe, hle]; exact hS
  show W p l e ({ frames := 4, cells := 1, slots := t9.length, locals := 200 } : Room) s m ([.ref q0, .ref (p0a 0), .null] : List Value).toArray below meth c s.heap [] 0 0 Q (F0 m 0 ls [])
  rw [← hle]
  refine wH9 hHe ?_
  refine lv_aload_n hx hb dJ0_init_db425_0 rfl (lv_at hl 0 rfl) ?_
  refine W.objInit hx hb hown (hts _ qw1652) (hts _ qw1286) (hts _ qw_oi) rfl (by rw [hml]; exact hl.1) rfl dJ0_init_db425_1 (Nat.le_of_ble_eq_true rfl) (Nat.le_of_ble_eq_true rfl) ?_
  refine W.eq (g2 := F0 m 4 ls []) rfl ?_
  refine lv_aload_n hx hb dJ0_init_db425_4 rfl (lv_at hl 1 rfl) ?_
  have hPx : va_P (dC, dI) cls ((List.flatten ([(oJ4 (p0a 0) p0a p0k p0n p0w)] : List va_W)) ++ (List.flatten ([[(q0, .inr (13, [.null, .int 0, .int 0, .int 0]))]] : List va_W))) H := vP_fa (vP_perm hP (bP ((((List.Perm.refl _)).cons _).trans (List.Perm.swap _ _ _))))
  have hDx : va_D A ((List.flatten ([(oJ4 (p0a 0) p0a p0k p0n p0w)] : List va_W)) ++ (List.flatten ([[(q0, .inr (13, [.null, .int 0, .int 0, .int 0]))]] : List va_W))) := vD_fa (vD_perm hD (bP ((((List.Perm.refl _)).cons _).trans (List.Perm.swap _ _ _))))
  have hKx : va_K (dC, dI) cls ((List.flatten ([(tJ4 p0k)] : List (List (ClassId × FieldType)))) ++ (List.flatten ([[]] : List (List (ClassId × FieldType))))) s := vK_fa (vK_perm hK (bP ((((List.Perm.refl _)).cons _).trans (List.Perm.swap _ _ _))))
  have hPc := vP_l hPx
  have hDc := vD_l hDx
  have hKc := vK_l hKx
  have hFc := vfree hDx hS hA
  refine va_callr (va_runU (As := []) (rest := []) ⟨hx, hb, hml, hown, hts⟩ (kJ5_gv l dC dI p0a p0k p0n p0w _) (va_cwU (owner := RJ5) 0 hts (gi_U qw1654 qw1655 qw1656 qw1657 qw1219 (gi_z qw1653)) rfl rfl rfl rfl (by decide +kernel) ⟨Nat.le_of_ble_eq_true rfl, Nat.le_of_ble_eq_true rfl⟩) ⟨PRE.blind, va_recv hKc hPc (ci := 12) (q0 := 0) rfl rfl, PRE.of hE hS hFc hPc hKc hDc⟩ rfl rfl hl.1 rfl (lv_room (Nat.le_of_ble_eq_true rfl)) dJ0_init_db425_5 ⟨(show 0 + 0 ≤ 1 from by omega), (show 0 + 0 ≤ t9.length from by omega)⟩) hS (fun q _ h => hFc q h) hFc (fun u ra t H locs ht hvm hw hB hz1 hk1 hS => ?_)
  obtain ⟨hra9, b1, b2, b3⟩ := hB
  subst hra9
  rw [ht] at b1
  obtain ⟨hP, hD, hK⟩ := JOINC (wc := (List.flatten ([(oJ4 (p0a 0) p0a p0k p0n p0w)] : List va_W))) (wr := (List.flatten ([[(q0, .inr (13, [.null, .int 0, .int 0, .int 0]))]] : List va_W))) (w1 := (List.flatten ([(oJ4 (p0a 0) p0a p0k p0n p0w)] : List va_W))) (t1 := (List.flatten ([(tJ4 p0k)] : List (List (ClassId × FieldType))))) hPx hDx hKx hk1 hFc b1 (va_K.moved hvm.symm b2) b3
  have hP : va_P (dC, dI) cls (List.flatten ([(oJ4 (p0a 0) p0a p0k p0n p0w), [(q0, .inr (13, [.null, .int 0, .int 0, .int 0]))]] : List va_W)) H := vP_fb hP
  have hD : va_D A (List.flatten ([(oJ4 (p0a 0) p0a p0k p0n p0w), [(q0, .inr (13, [.null, .int 0, .int 0, .int 0]))]] : List va_W)) := vD_fb hD
  have hK : va_K (dC, dI) cls (List.flatten ([(tJ4 p0k), []] : List (List (ClassId × FieldType)))) s := vK_fb hK
  refine lv_astore_n (lv' := [(3, .ref (p0a 1)), (0, .ref q0), (1, .ref (p0a 0)), (2, .null)]) hx hb dJ0_init_db425_8 rfl hl (by decide) rfl (fun ls hl => ?_)
  refine lv_aload_n hx hb dJ0_init_db425_9 rfl (lv_at hl 2 rfl) ?_
  have hPx : va_P (dC, dI) cls ((List.flatten ([(oJ4 (p0a 0) p0a p0k p0n p0w)] : List va_W)) ++ (List.flatten ([[(q0, .inr (13, [.null, .int 0, .int 0, .int 0]))]] : List va_W))) H := vP_fa (vP_perm hP (bP (List.Perm.refl _)))
  have hDx : va_D A ((List.flatten ([(oJ4 (p0a 0) p0a p0k p0n p0w)] : List va_W)) ++ (List.flatten ([[(q0, .inr (13, [.null, .int 0, .int 0, .int 0]))]] : List va_W))) := vD_fa (vD_perm hD (bP (List.Perm.refl _)))
  have hKx : va_K (dC, dI) cls ((List.flatten ([(tJ4 p0k)] : List (List (ClassId × FieldType)))) ++ (List.flatten ([[]] : List (List (ClassId × FieldType))))) s := vK_fa (vK_perm hK (bP (List.Perm.refl _)))
  have hPc := vP_l hPx
  have hDc := vD_l hDx
  have hKc := vK_l hKx
  have hFc := vfree hDx hS hA
  refine va_calli (va_runU (As := []) (rest := []) ⟨hx, hb, hml, hown, hts⟩ (kJ4_length_8abf5 l dC dI (p0a := p0a) (p0k := p0k) (p0n := p0n) (p0w := p0w) (sz := _) (o := pu_I t9.length) (hrun := hlen)) (va_cwO (owner := RJ5) 0 hts (gi_O qw1659 qw1638 qw1639 qw1660 qw1661 qw1610 (gi_z qw1658)) rfl rfl rfl qw1636 (by decide +kernel) ⟨Nat.le_of_ble_eq_true rfl, Nat.le_of_ble_eq_true rfl⟩) ⟨PRE.blind, va_recv hKc hPc (ci := 12) (q0 := 0) rfl rfl, PRE.of hE hS hFc hPc hKc hDc⟩ rfl rfl hl.1 rfl (lv_room (Nat.le_of_ble_eq_true rfl)) dJ0_init_db425_10 ⟨(show 0 + 0 ≤ 1 from by omega), (show 0 + 0 ≤ t9.length from by omega)⟩) hS (fun q _ h => hFc q h) hFc (fun ra u t H locs ht hvm hw hB hz1 hk1 hS => ?_)
  obtain ⟨b1, b2, b3⟩ := hB
  subst hw
  rw [ht] at b1
  obtain ⟨hP, hD, hK⟩ := JOINC (wc := (List.flatten ([(oJ4 (p0a 0) p0a p0k p0n p0w)] : List va_W))) (wr := (List.flatten ([[(q0, .inr (13, [.null, .int 0, .int 0, .int 0]))]] : List va_W))) (w1 := (List.flatten ([(oJ4 (p0a 0) p0a p0k p0n p0w)] : List va_W))) (t1 := (List.flatten ([(tJ4 p0k)] : List (List (ClassId × FieldType))))) hPx hDx hKx hk1 hFc b1 (va_K.moved hvm.symm b2) b3
  have hP : va_P (dC, dI) cls (List.flatten ([(oJ4 (p0a 0) p0a p0k p0n p0w), [(q0, .inr (13, [.null, .int 0, .int 0, .int 0]))]] : List va_W)) H := vP_fb hP
  have hD : va_D A (List.flatten ([(oJ4 (p0a 0) p0a p0k p0n p0w), [(q0, .inr (13, [.null, .int 0, .int 0, .int 0]))]] : List va_W)) := vD_fb hD
  have hK : va_K (dC, dI) cls (List.flatten ([(tJ4 p0k), []] : List (List (ClassId × FieldType)))) s := vK_fb hK
  refine lv_istore (lv' := [(4, .int (pu_I t9.length)), (3, .ref (p0a 1)), (0, .ref q0), (1, .ref (p0a 0)), (2, .null)]) hx hb dJ0_init_db425_13 hl (by decide) rfl (fun ls hl => ?_)
  refine lv_aload_n hx hb dJ0_init_db425_15 rfl (lv_at hl 3 rfl) ?_
  have hPx : va_P (dC, dI) cls ((List.flatten ([(oJ4 (p0a 0) p0a p0k p0n p0w)] : List va_W)) ++ (List.flatten ([[(q0, .inr (13, [.null, .int 0, .int 0, .int 0]))]] : List va_W))) H := vP_fa (vP_perm hP (bP (List.Perm.refl _)))
  have hDx : va_D A ((List.flatten ([(oJ4 (p0a 0) p0a p0k p0n p0w)] : List va_W)) ++ (List.flatten ([[(q0, .inr (13, [.null, .int 0, .int 0, .int 0]))]] : List va_W))) := vD_fa (vD_perm hD (bP (List.Perm.refl _)))
  have hKx : va_K (dC, dI) cls ((List.flatten ([(tJ4 p0k)] : List (List (ClassId × FieldType)))) ++ (List.flatten ([[]] : List (List (ClassId × FieldType))))) s := vK_fa (vK_perm hK (bP (List.Perm.refl _)))
  have hPc := vP_l hPx
  have hDc := vD_l hDx
  have hKc := vK_l hKx
  have hFc := vfree hDx hS hA
  refine va_calli (va_runU (As := []) (rest := []) ⟨hx, hb, hml, hown, hts⟩ (kJ5_isLatin1_aae02 l dC dI (p0a := p0a) (p0k := p0k) (p0n := p0n) (p0w := p0w) (sz := _) (o := 1) (hrun := hlat)) (va_cwU (owner := RJ5) 0 hts (gi_U qw1662 qw1254 qw1255 qw1256 qw1219 (gi_z qw1252)) rfl rfl rfl rfl (by decide +kernel) ⟨Nat.le_of_ble_eq_true rfl, Nat.le_of_ble_eq_true rfl⟩) ⟨PRE.blind, va_recv hKc hPc (ci := 12) (q0 := 0) rfl rfl, PRE.of hE hS hFc hPc hKc hDc⟩ rfl rfl hl.1 rfl (lv_room (Nat.le_of_ble_eq_true rfl)) dJ0_init_db425_16 ⟨(show 0 + 0 ≤ 1 from by omega), (show 0 + 0 ≤ t9.length from by omega)⟩) hS (fun q _ h => hFc q h) hFc (fun ra u t H locs ht hvm hw hB hz1 hk1 hS => ?_)
  obtain ⟨b1, b2, b3⟩ := hB
  subst hw
  rw [ht] at b1
  obtain ⟨hP, hD, hK⟩ := JOINC (wc := (List.flatten ([(oJ4 (p0a 0) p0a p0k p0n p0w)] : List va_W))) (wr := (List.flatten ([[(q0, .inr (13, [.null, .int 0, .int 0, .int 0]))]] : List va_W))) (w1 := (List.flatten ([(oJ4 (p0a 0) p0a p0k p0n p0w)] : List va_W))) (t1 := (List.flatten ([(tJ4 p0k)] : List (List (ClassId × FieldType))))) hPx hDx hKx hk1 hFc b1 (va_K.moved hvm.symm b2) b3
  have hP : va_P (dC, dI) cls (List.flatten ([(oJ4 (p0a 0) p0a p0k p0n p0w), [(q0, .inr (13, [.null, .int 0, .int 0, .int 0]))]] : List va_W)) H := vP_fb hP
  have hD : va_D A (List.flatten ([(oJ4 (p0a 0) p0a p0k p0n p0w), [(q0, .inr (13, [.null, .int 0, .int 0, .int 0]))]] : List va_W)) := vD_fb hD
  have hK : va_K (dC, dI) cls (List.flatten ([(tJ4 p0k), []] : List (List (ClassId × FieldType)))) s := vK_fb hK
  refine lv_if_eq (tgt := 41) hx hb dJ0_init_db425_19 (by decide) (fun c => absurd c (by decide)) (fun _ => ?_)
  refine lv_aload_n hx hb dJ0_init_db425_22 rfl (lv_at hl 2 rfl) ?_
  refine lv_iconst (v := 0) hx hb dJ0_init_db425_23 (by decide) ?_
  have hP : va_P (dC, dI) cls (List.flatten ([[(q0, .inr (13, [.null, .int 0, .int 0, .int 0]))], (oJ4 (p0a 0) p0a p0k p0n p0w)] : List va_W)) H := vP_perm hP (bP ((((List.Perm.refl _)).cons _).trans (List.Perm.swap _ _ _)))
  have hD : va_D A (List.flatten ([[(q0, .inr (13, [.null, .int 0, .int 0, .int 0]))], (oJ4 (p0a 0) p0a p0k p0n p0w)] : List va_W)) := vD_perm hD (bP ((((List.Perm.refl _)).cons _).trans (List.Perm.swap _ _ _)))
  have hK : va_K (dC, dI) cls (List.flatten ([[], (tJ4 p0k)] : List (List (ClassId × FieldType)))) s := vK_perm hK (bP ((((List.Perm.refl _)).cons _).trans (List.Perm.swap _ _ _)))
  refine va_putF (D := (dC, dI)) (ci := 13) (v := .int 0) (ty := .byte) (C := RJ0) (T := TJ0) (N := 4) hx hb hts i_J0 tyJ0 tyJ0_ok nmJ0 hown hK hP hD hS 0 rfl rfl 1 (by decide) (hts _ qw1178) (fun _ h9 => h9) rfl hin rfl (by decide +kernel) rfl rfl (Nat.le_of_ble_eq_true rfl) dJ0_init_db425_24 (fun H locs hP hD hS => ?_)
  have hP : va_P (dC, dI) cls (List.flatten ([[(q0, .inr (13, [.null, .int 0, .int 0, .int 0]))], (oJ4 (p0a 0) p0a p0k p0n p0w)] : List va_W)) H := hP
  have hD : va_D A (List.flatten ([[(q0, .inr (13, [.null, .int 0, .int 0, .int 0]))], (oJ4 (p0a 0) p0a p0k p0n p0w)] : List va_W)) := hD
  refine lv_aload_n hx hb dJ0_init_db425_27 rfl (lv_at hl 2 rfl) ?_
  refine lv_aload_n hx hb dJ0_init_db425_28 rfl (lv_at hl 1 rfl) ?_
  refine lv_iconst (v := 0) hx hb dJ0_init_db425_29 (by decide) ?_
  refine lv_iload hx hb dJ0_init_db425_30 (lv_at hl 0 rfl) ?_
  have hP : va_P (dC, dI) cls (List.flatten ([[(q0, .inr (13, [.null, .int 0, .int 0, .int 0]))], [((p0a 0), .inr (12, [.ref (p0a 1), .int (p0w 0 1), .int (p0w 0 2), .int (p0w 0 3)]))], [((p0a 1), .inl ((p0k 1), (p0n 1), .inl (p0w 1)))]] : List va_W)) H := hP
  have hD : va_D A (List.flatten ([[(q0, .inr (13, [.null, .int 0, .int 0, .int 0]))], [((p0a 0), .inr (12, [.ref (p0a 1), .int (p0w 0 1), .int (p0w 0 2), .int (p0w 0 3)]))], [((p0a 1), .inl ((p0k 1), (p0n 1), .inl (p0w 1)))]] : List va_W)) := hD
  have hK : va_K (dC, dI) cls (List.flatten ([[], [], [((p0k 1), .byte)]] : List (List (ClassId × FieldType)))) s := hK
  have hPx : va_P (dC, dI) cls ((List.flatten ([[((p0a 1), .inl ((p0k 1), (p0n 1), .inl (p0w 1)))]] : List va_W)) ++ (List.flatten ([[(q0, .inr (13, [.null, .int 0, .int 0, .int 0]))], [((p0a 0), .inr (12, [.ref (p0a 1), .int (p0w 0 1), .int (p0w 0 2), .int (p0w 0 3)]))]] : List va_W))) H := vP_fa (vP_perm hP (bP (((((((List.Perm.refl _)).cons _).trans (List.Perm.swap _ _ _))).cons _).trans (List.Perm.swap _ _ _))))
  have hDx : va_D A ((List.flatten ([[((p0a 1), .inl ((p0k 1), (p0n 1), .inl (p0w 1)))]] : List va_W)) ++ (List.flatten ([[(q0, .inr (13, [.null, .int 0, .int 0, .int 0]))], [((p0a 0), .inr (12, [.ref (p0a 1), .int (p0w 0 1), .int (p0w 0 2), .int (p0w 0 3)]))]] : List va_W))) := vD_fa (vD_perm hD (bP (((((((List.Perm.refl _)).cons _).trans (List.Perm.swap _ _ _))).cons _).trans (List.Perm.swap _ _ _))))
  have hKx : va_K (dC, dI) cls ((List.flatten ([[((p0k 1), .byte)]] : List (List (ClassId × FieldType)))) ++ (List.flatten ([[], []] : List (List (ClassId × FieldType))))) s := vK_fa (vK_perm hK (bP (((((((List.Perm.refl _)).cons _).trans (List.Perm.swap _ _ _))).cons _).trans (List.Perm.swap _ _ _))))
  have hPc := vP_l hPx
  have hDc := vD_l hDx
  have hKc := vK_l hKx
  have hFc := vfree hDx hS hA
  refine va_callr (va_runS (As := [.ref (p0a 1), .int 0, .int (pu_I t9.length)]) (rest := [.ref q0]) ⟨hx, hb, hml, hown, hts⟩ (kJ7_cr l dC dI (p0a 1) (p0k 1) (p0n 1) (p0w 1) t9.length hle9 hK6 hf9 _) (va_cwS 3 hts (gi_S qw1663 qw1664 qw109 (gi_z qw1665)) rfl rfl rfl (by decide +kernel) ⟨Nat.le_of_ble_eq_true rfl, Nat.le_of_ble_eq_true rfl⟩) ⟨PRE.blind, PRE.of hE hS hFc hPc hKc hDc⟩ rfl rfl hl.1 rfl (lv_room (Nat.le_of_ble_eq_true rfl)) dJ0_init_db425_32 ⟨(show 0 + 1 ≤ 1 from by omega), (show 0 + t9.length ≤ t9.length from by omega)⟩) hS (fun q _ h => hFc q h) hFc (fun u ra t H locs ht hvm hw hB hz1 hk1 hS => ?_)
  obtain ⟨c2, f2, hf2, hf3, b1, b2, b3⟩ := hB
  rw [ht] at b1
  obtain ⟨hP, hD, hK⟩ := JOINC (wc := (List.flatten ([[((p0a 1), .inl ((p0k 1), (p0n 1), .inl (p0w 1)))]] : List va_W))) (wr := (List.flatten ([[(q0, .inr (13, [.null, .int 0, .int 0, .int 0]))], [((p0a 0), .inr (12, [.ref (p0a 1), .int (p0w 0 1), .int (p0w 0 2), .int (p0w 0 3)]))]] : List va_W))) (w1 := (List.flatten ([[((p0a 1), .inl ((p0k 1), (p0n 1), .inl (p0w 1)))], [(ra, .inl (c2, t9.length, .inl f2))]] : List va_W))) (t1 := (List.flatten ([[((p0k 1), .byte)], [(c2, .byte)]] : List (List (ClassId × FieldType))))) hPx hDx hKx hk1 hFc b1 (va_K.moved hvm.symm b2) b3
  have hP : va_P (dC, dI) cls (List.flatten ([[((p0a 1), .inl ((p0k 1), (p0n 1), .inl (p0w 1)))], [(ra, .inl (c2, t9.length, .inl f2))], [(q0, .inr (13, [.null, .int 0, .int 0, .int 0]))], [((p0a 0), .inr (12, [.ref (p0a 1), .int (p0w 0 1), .int (p0w 0 2), .int (p0w 0 3)]))]] : List va_W)) H := vP_fb hP
  have hD : va_D A (List.flatten ([[((p0a 1), .inl ((p0k 1), (p0n 1), .inl (p0w 1)))], [(ra, .inl (c2, t9.length, .inl f2))], [(q0, .inr (13, [.null, .int 0, .int 0, .int 0]))], [((p0a 0), .inr (12, [.ref (p0a 1), .int (p0w 0 1), .int (p0w 0 2), .int (p0w 0 3)]))]] : List va_W)) := vD_fb hD
  have hK : va_K (dC, dI) cls (List.flatten ([[((p0k 1), .byte)], [(c2, .byte)], [], []] : List (List (ClassId × FieldType)))) s := vK_fb hK
  have hP : va_P (dC, dI) cls (List.flatten ([[(q0, .inr (13, [.null, .int 0, .int 0, .int 0]))], [(ra, .inl (c2, t9.length, .inl f2))], [((p0a 0), .inr (12, [.ref (p0a 1), .int (p0w 0 1), .int (p0w 0 2), .int (p0w 0 3)]))], [((p0a 1), .inl ((p0k 1), (p0n 1), .inl (p0w 1)))]] : List va_W)) H := vP_perm hP (bP (((((((((List.Perm.refl _)).cons _).trans (List.Perm.swap _ _ _))).cons _).trans (List.Perm.swap _ _ _))).trans ((((((((List.Perm.refl _)).cons _).trans (List.Perm.swap _ _ _))).trans ((((((List.Perm.refl _)).cons _).trans (List.Perm.swap _ _ _))).cons _))).cons _)))
  have hD : va_D A (List.flatten ([[(q0, .inr (13, [.null, .int 0, .int 0, .int 0]))], [(ra, .inl (c2, t9.length, .inl f2))], [((p0a 0), .inr (12, [.ref (p0a 1), .int (p0w 0 1), .int (p0w 0 2), .int (p0w 0 3)]))], [((p0a 1), .inl ((p0k 1), (p0n 1), .inl (p0w 1)))]] : List va_W)) := vD_perm hD (bP (((((((((List.Perm.refl _)).cons _).trans (List.Perm.swap _ _ _))).cons _).trans (List.Perm.swap _ _ _))).trans ((((((((List.Perm.refl _)).cons _).trans (List.Perm.swap _ _ _))).trans ((((((List.Perm.refl _)).cons _).trans (List.Perm.swap _ _ _))).cons _))).cons _)))
  have hK : va_K (dC, dI) cls (List.flatten ([[], [(c2, .byte)], [], [((p0k 1), .byte)]] : List (List (ClassId × FieldType)))) s := vK_perm hK (bP (((((((((List.Perm.refl _)).cons _).trans (List.Perm.swap _ _ _))).cons _).trans (List.Perm.swap _ _ _))).trans ((((((((List.Perm.refl _)).cons _).trans (List.Perm.swap _ _ _))).trans ((((((List.Perm.refl _)).cons _).trans (List.Perm.swap _ _ _))).cons _))).cons _)))
  refine va_putF (D := (dC, dI)) (ci := 13) (v := .ref ra) (ty := .array .byte) (C := RJ0) (T := TJ0) (N := 4) hx hb hts i_J0 tyJ0 tyJ0_ok nmJ0 hown hK hP hD hS 0 rfl rfl 0 (by decide) (hts _ qw1179) (fun _ h9 => h9) rfl hin rfl (by decide +kernel) rfl rfl (Nat.le_of_ble_eq_true rfl) dJ0_init_db425_35 (fun H locs hP hD hS => ?_)
  have hP : va_P (dC, dI) cls (List.flatten ([[(q0, .inr (13, [.ref ra, .int 0, .int 0, .int 0]))], [(ra, .inl (c2, t9.length, .inl f2))], [((p0a 0), .inr (12, [.ref (p0a 1), .int (p0w 0 1), .int (p0w 0 2), .int (p0w 0 3)]))], [((p0a 1), .inl ((p0k 1), (p0n 1), .inl (p0w 1)))]] : List va_W)) H := hP
  have hD : va_D A (List.flatten ([[(q0, .inr (13, [.ref ra, .int 0, .int 0, .int 0]))], [(ra, .inl (c2, t9.length, .inl f2))], [((p0a 0), .inr (12, [.ref (p0a 1), .int (p0w 0 1), .int (p0w 0 2), .int (p0w 0 3)]))], [((p0a 1), .inl ((p0k 1), (p0n 1), .inl (p0w 1)))]] : List va_W)) := hD
  have hP : va_P (dC, dI) cls (List.flatten ([[(q0, .inr (13, [.ref ra, .int 0, .int 0, .int 0]))], [(ra, .inl (c2, t9.length, .inl f2))], (oJ4 (p0a 0) p0a p0k p0n p0w)] : List va_W)) H := hP
  have hD : va_D A (List.flatten ([[(q0, .inr (13, [.ref ra, .int 0, .int 0, .int 0]))], [(ra, .inl (c2, t9.length, .inl f2))], (oJ4 (p0a 0) p0a p0k p0n p0w)] : List va_W)) := hD
  have hK : va_K (dC, dI) cls (List.flatten ([[], [(c2, .byte)], (tJ4 p0k)] : List (List (ClassId × FieldType)))) s := hK
  refine lv_goto (tgt := 97) hx hb dJ0_init_db425_38 (by decide) ?_
  refine W.widen (k := 1) (n := t9.length) (by omega) (by omega) ?_
  subst hQ
  exact W.vret hx hb hr (fun t ht hW => ⟨⟨(), rfl, trivial, ra, c2, f2, fun j hj => (hf2 j hj).trans (h.2.2.1 j hj), hf3, by rw [ht]; exact hP, va_K.moved hW.alike hK, hD⟩, hS.F ht⟩) hS.2.2 dJ0_init_db425_97
set_option maxHeartbeats 16000000 in
set_option maxRecDepth 100000 in
theorem kJ0_si {zs : ZS} (l : Launch) (dC : Nat → ClassId) (dI : Nat → Nat → Nat) (q0 : Nat) (p0a : Nat → Nat) (p0k : Nat → ClassId) (p0n : Nat → Nat) (p0w : ST) (K9 : Nat) (t9 : List Int32) (h : sb9 K9 p0n p0w t9) (sz : Nat) : Met l yJ0_init_81219 (wz yJ0_init_81219 cJ0_init_81219 2 (Option.none : Option Jvm.ClassFile.FieldType)) ({ frames := 5, cells := 1, slots := t9.length, locals := 240 } : Room) (va_Pc [.ref q0, .ref (p0a 0)] (PRE (zA zs cl9) dC dI (List.flatten ([[(q0, .inr (13, [.null, .int 0, .int 0, .int 0]))], (oJ4 (p0a 0) p0a p0k p0n p0w)] : List va_W)) (List.flatten ([[], (tJ4 p0k)] : List (List (ClassId × FieldType)))) sz)) (va_Qv (fun (_ : Unit) => True) (fun _ t => ∃ (v9 : Nat) (c9 : ClassId) (f9 : RI), (∀ j, j < t9.length → f9 j = t9.getD j 0) ∧ (∀ j, fits .byte (.int (f9 j)) = true) ∧ POST dC dI (List.flatten ([[(q0, .inr (13, [.ref v9, .int 0, .int 0, .int 0]))], [(v9, .inl (c9, t9.length, .inl f9))], (oJ4 (p0a 0) p0a p0k p0n p0w)] : List va_W)) (List.flatten ([[], [(c9, .byte)], (tJ4 p0k)] : List (List (ClassId × FieldType)))) (va_A (List.flatten ([[(q0, .inr (13, [.null, .int 0, .int 0, .int 0]))], (oJ4 (p0a 0) p0a p0k p0n p0w)] : List va_W)) sz) t) (va_A (List.flatten ([[(q0, .inr (13, [.null, .int 0, .int 0, .int 0]))], (oJ4 (p0a 0) p0a p0k p0n p0w)] : List va_W)) sz)) 1 t9.length (va_A (List.flatten ([[(q0, .inr (13, [.null, .int 0, .int 0, .int 0]))], (oJ4 (p0a 0) p0a p0k p0n p0w)] : List va_W)) sz) := by
  refine Met.ofW (cc := cJ0_init_81219) (maxL := 2) (ret := (Option.none : Option Jvm.ClassFile.FieldType)) (by decide) rfl ?_
  intro p e s m args below meth c s₁ B hml hv
  obtain ⟨rfl, hsz, hP, hK, hD0, hE⟩ := hv
  have hx := B.exec
  have hb := B.bytes
  have hr := B.returns
  have hin : meth.name = "<init>" := (name_of_methodNamed B.named B.method).1
  have hts0 := atoms_spec (ws := wz yJ0_init_81219 cJ0_init_81219 2 (Option.none : Option Jvm.ClassFile.FieldType)) B.pre
  have hts : ∀ w ∈ gw, w.before _ s = true := fun w h => hts0 w (List.mem_cons_of_mem _ h)
  have hown : s.vm.findClass RJ0 = some m.cls := findClass_of_methodNamed B.named
  subst hsz
  have hD := hD0.self (sz := s.heap.size)
  refine gQ9 ?_
  intro Q hQ
  generalize hAe : va_A (List.flatten ([[(q0, .inr (13, [.null, .int 0, .int 0, .int 0]))], (oJ4 (p0a 0) p0a p0k p0n p0w)] : List va_W)) s.heap.size = A at hD hE hQ
  have hA : ∀ q : Nat, s.heap.size ≤ q → A q := fun q h => by rw [← hAe]; exact Or.inr h
  have hS : va_S A s.heap s.heap [] := va_S.rf
  have hP : va_P (dC, dI) cls (List.flatten ([[(q0, .inr (13, [.null, .int 0, .int 0, .int 0]))], (oJ4 (p0a 0) p0a p0k p0n p0w)] : List va_W)) s.heap := hP
  have hl := lv_entry ([.ref q0, .ref (p0a 0)]) (n := 2) (Nat.le_of_ble_eq_true rfl)
  rw [lg_entry_eq]
  generalize (lg_sl ([.ref q0, .ref (p0a 0)]) ++ List.replicate (2 - (lg_sl ([.ref q0, .ref (p0a 0)])).length) Slot.unset).toArray = ls at hl ⊢
  have hl : lv_has ls 2 [(0, .ref q0), (1, .ref (p0a 0))] := hl
  obtain ⟨H, hHe⟩ : ∃ H, H = s.heap := ⟨_, rfl⟩
  obtain ⟨locs, hle⟩ : ∃ locs : List Loc, locs = [] := ⟨_, rfl⟩
  rw [← hHe] at hP
  have hS : va_S A s.heap H locs := by rw [hHe, hle]; exact hS
  show W p l e ({ frames := 5, cells := 1, slots := t9.length, locals := 240 } : Room) s m ([.ref q0, .ref (p0a 0)] : List Value).toArray below meth c s.heap [] 0 0 Q (F0 m 0 ls [])
  rw [← hle]
  refine wH9 hHe ?_
  refine lv_aload_n hx hb dJ0_init_81219_0 rfl (lv_at hl 0 rfl) ?_
  refine lv_aload_n hx hb dJ0_init_81219_1 rfl (lv_at hl 1 rfl) ?_
  refine lv_null hx hb dJ0_init_81219_2 ?_
  have hPx : va_P (dC, dI) cls ((List.flatten ([[(q0, .inr (13, [.null, .int 0, .int 0, .int 0]))], (oJ4 (p0a 0) p0a p0k p0n p0w)] : List va_W)) ++ (List.flatten ([] : List va_W))) H := vP_fa (vP_perm hP (bP (List.Perm.refl _)))
  have hDx : va_D A ((List.flatten ([[(q0, .inr (13, [.null, .int 0, .int 0, .int 0]))], (oJ4 (p0a 0) p0a p0k p0n p0w)] : List va_W)) ++ (List.flatten ([] : List va_W))) := vD_fa (vD_perm hD (bP (List.Perm.refl _)))
  have hKx : va_K (dC, dI) cls ((List.flatten ([[], (tJ4 p0k)] : List (List (ClassId × FieldType)))) ++ (List.flatten ([] : List (List (ClassId × FieldType))))) s := vK_fa (vK_perm hK (bP (List.Perm.refl _)))
  have hPc := vP_l hPx
  have hDc := vD_l hDx
  have hKc := vK_l hKx
  have hFc := vfree hDx hS hA
  refine va_callv (va_runI (As := [.ref (p0a 0), .null]) (rest := []) ⟨hx, hb, hml, hown, hts⟩ (kJ0_si2 l dC dI q0 p0a p0k p0n p0w K9 t9 h _) (cwI 2 hts (gi_z qw1666) rfl rfl rfl (hts _ qw1184) (hts _ qw1667) (hts _ qw1668) rfl (by decide +kernel) ⟨Nat.le_of_ble_eq_true rfl, Nat.le_of_ble_eq_true rfl⟩) ⟨PRE.blind, PRE.of hE hS hFc hPc hKc hDc⟩ rfl rfl hl.1 rfl (lv_room (Nat.le_of_ble_eq_true rfl)) dJ0_init_81219_3 ⟨(show 0 + 1 ≤ 1 from by omega), (show 0 + t9.length ≤ t9.length from by omega)⟩) hS (fun q _ h => hFc q h) hFc (fun u t H locs ht hvm hw hB hz1 hk1 hS => ?_)
  obtain ⟨v9, c9, f9, hf2, hf3, b1, b2, b3⟩ := hB
  rw [ht] at b1
  obtain ⟨hP, hD, hK⟩ := JOINC (wc := (List.flatten ([[(q0, .inr (13, [.null, .int 0, .int 0, .int 0]))], (oJ4 (p0a 0) p0a p0k p0n p0w)] : List va_W))) (wr := (List.flatten ([] : List va_W))) (w1 := (List.flatten ([[(q0, .inr (13, [.ref v9, .int 0, .int 0, .int 0]))], [(v9, .inl (c9, t9.length, .inl f9))], (oJ4 (p0a 0) p0a p0k p0n p0w)] : List va_W))) (t1 := (List.flatten ([[], [(c9, .byte)], (tJ4 p0k)] : List (List (ClassId × FieldType))))) hPx hDx hKx hk1 hFc b1 (va_K.moved hvm.symm b2) b3
  have hP : va_P (dC, dI) cls (List.flatten ([[(q0, .inr (13, [.ref v9, .int 0, .int 0, .int 0]))], [(v9, .inl (c9, t9.length, .inl f9))], (oJ4 (p0a 0) p0a p0k p0n p0w)] : List va_W)) H := vP_fb hP
  have hD : va_D A (List.flatten ([[(q0, .inr (13, [.ref v9, .int 0, .int 0, .int 0]))], [(v9, .inl (c9, t9.length, .inl f9))], (oJ4 (p0a 0) p0a p0k p0n p0w)] : List va_W)) := vD_fb hD
  have hK : va_K (dC, dI) cls (List.flatten ([[], [(c9, .byte)], (tJ4 p0k)] : List (List (ClassId × FieldType)))) s := vK_fb hK
  refine W.widen (k := 1) (n := t9.length) (by omega) (by omega) ?_
  subst hQ
  exact W.vret hx hb hr (fun t ht hW => ⟨⟨(), rfl, trivial, v9, c9, f9, hf2, hf3, by rw [ht]; exact hP, va_K.moved hW.alike hK, hD⟩, hS.F ht⟩) hS.2.2 dJ0_init_81219_6
set_option maxHeartbeats 16000000 in
set_option maxRecDepth 100000 in
theorem kJ4_ts {zs : ZS} (l : Launch) (dC : Nat → ClassId) (dI : Nat → Nat → Nat) (p0a : Nat → Nat) (p0k : Nat → ClassId) (p0n : Nat → Nat) (p0w : ST) (K9 : Nat) (t9 : List Int32) (h : sb9 K9 p0n p0w t9) (sz : Nat) : Met l yJ4_toString_0e30d (wz yJ4_toString_0e30d cJ4_toString_0e30d 1 (Option.some (Jvm.ClassFile.FieldType.object "java/lang/String"))) ({ frames := 6, cells := 2, slots := 4 + t9.length, locals := 280 } : Room) (va_Pc [.ref (p0a 0)] (PRE (zA zs cl9) dC dI (List.flatten ([(oJ4 (p0a 0) p0a p0k p0n p0w)] : List va_W)) (List.flatten ([(tJ4 p0k)] : List (List (ClassId × FieldType)))) sz)) (va_Qr (fun (_ : Unit) => True) (fun _ q0 t => ∃ (v9 : Nat) (c9 : ClassId) (f9 : RI), (∀ j, j < t9.length → f9 j = t9.getD j 0) ∧ (∀ j, fits .byte (.int (f9 j)) = true) ∧ POST dC dI (List.flatten ([[(q0, .inr (13, [.ref v9, .int 0, .int 0, .int 0]))], [(v9, .inl (c9, t9.length, .inl f9))], (oJ4 (p0a 0) p0a p0k p0n p0w)] : List va_W)) (List.flatten ([[], [(c9, .byte)], (tJ4 p0k)] : List (List (ClassId × FieldType)))) (va_A (List.flatten ([(oJ4 (p0a 0) p0a p0k p0n p0w)] : List va_W)) sz) t) (va_A (List.flatten ([(oJ4 (p0a 0) p0a p0k p0n p0w)] : List va_W)) sz)) 2 (4 + t9.length) (va_A (List.flatten ([(oJ4 (p0a 0) p0a p0k p0n p0w)] : List va_W)) sz) := by
  refine Met.ofW (cc := cJ4_toString_0e30d) (maxL := 1) (ret := (Option.some (Jvm.ClassFile.FieldType.object "java/lang/String"))) (by decide) rfl ?_
  intro p e s m args below meth c s₁ B hml hv
  obtain ⟨rfl, hsz, hP, hK, hD0, hE⟩ := hv
  have hx := B.exec
  have hb := B.bytes
  have hr := B.returns
  have hts0 := atoms_spec (ws := wz yJ4_toString_0e30d cJ4_toString_0e30d 1 (Option.some (Jvm.ClassFile.FieldType.object "java/lang/String"))) B.pre
  have hts : ∀ w ∈ gw, w.before _ s = true := fun w h => hts0 w (List.mem_cons_of_mem _ h)
  have hown : s.vm.findClass RJ4 = some m.cls := findClass_of_methodNamed B.named
  subst hsz
  have hD := hD0.self (sz := s.heap.size)
  refine gQ9 ?_
  intro Q hQ
  generalize hAe : va_A (List.flatten ([(oJ4 (p0a 0) p0a p0k p0n p0w)] : List va_W)) s.heap.size = A at hD hE hQ
  have hA : ∀ q : Nat, s.heap.size ≤ q → A q := fun q h => by rw [← hAe]; exact Or.inr h
  have hS : va_S A s.heap s.heap [] := va_S.rf
  have hP : va_P (dC, dI) cls (List.flatten ([(oJ4 (p0a 0) p0a p0k p0n p0w)] : List va_W)) s.heap := hP
  have hl := lv_entry ([.ref (p0a 0)]) (n := 1) (Nat.le_of_ble_eq_true rfl)
  rw [lg_entry_eq]
  generalize (lg_sl ([.ref (p0a 0)]) ++ List.replicate (1 - (lg_sl ([.ref (p0a 0)])).length) Slot.unset).toArray = ls at hl ⊢
  have hl : lv_has ls 1 [(0, .ref (p0a 0))] := hl
  obtain ⟨H, hHe⟩ : ∃ H, H = s.heap := ⟨_, rfl⟩
  obtain ⟨locs, hle⟩ : ∃ locs : List Loc, locs = [] := ⟨_, rfl⟩
  rw [← hHe] at hP
  have hS : va_S A s.heap H locs := by rw [hHe, hle]; exact hS
  show W p l e ({ frames := 6, cells := 2, slots := 4 + t9.length, locals := 280 } : Room) s m ([.ref (p0a 0)] : List Value).toArray below meth c s.heap [] 0 0 Q (F0 m 0 ls [])
  rw [← hle]
  refine wH9 hHe ?_
  refine va_new (ci := 13) (fs := [.null, .int 0, .int 0, .int 0]) (C := RJ0) (T := TJ0) (N := 4) hx hb hts i_J0 tyJ0 tyJ0_ok hown (hts _ qw1669) (hts _ qw1670) (hts _ qw1184) hK hP hD hS hA rfl df_J0 (show 0 + 1 ≤ 2 from by omega) (show 0 + 4 ≤ 4 + t9.length from by omega) dJ4_toString_0e30d_0 (fun q0 H hP hD hS => ?_)
  have hP : va_P (dC, dI) cls (List.flatten ([(oJ4 (p0a 0) p0a p0k p0n p0w), [(q0, .inr (13, [.null, .int 0, .int 0, .int 0]))]] : List va_W)) H := hP
  have hD : va_D A (List.flatten ([(oJ4 (p0a 0) p0a p0k p0n p0w), [(q0, .inr (13, [.null, .int 0, .int 0, .int 0]))]] : List va_W)) := hD
  have hK : va_K (dC, dI) cls (List.flatten ([(tJ4 p0k), []] : List (List (ClassId × FieldType)))) s := hK
  refine lv_dup hx hb dJ4_toString_0e30d_3 rfl ?_
  refine lv_aload_n hx hb dJ4_toString_0e30d_4 rfl (lv_at hl 0 rfl) ?_
  have hPx : va_P (dC, dI) cls ((List.flatten ([[(q0, .inr (13, [.null, .int 0, .int 0, .int 0]))], (oJ4 (p0a 0) p0a p0k p0n p0w)] : List va_W)) ++ (List.flatten ([] : List va_W))) H := vP_fa (vP_perm hP (bP ((((List.Perm.refl _)).cons _).trans (List.Perm.swap _ _ _))))
  have hDx : va_D A ((List.flatten ([[(q0, .inr (13, [.null, .int 0, .int 0, .int 0]))], (oJ4 (p0a 0) p0a p0k p0n p0w)] : List va_W)) ++ (List.flatten ([] : List va_W))) := vD_fa (vD_perm hD (bP ((((List.Perm.refl _)).cons _).trans (List.Perm.swap _ _ _))))
  have hKx : va_K (dC, dI) cls ((List.flatten ([[], (tJ4 p0k)] : List (List (ClassId × FieldType)))) ++ (List.flatten ([] : List (List (ClassId × FieldType))))) s := vK_fa (vK_perm hK (bP ((((List.Perm.refl _)).cons _).trans (List.Perm.swap _ _ _))))
  have hPc := vP_l hPx
  have hDc := vD_l hDx
  have hKc := vK_l hKx
  have hFc := vfree hDx hS hA
  refine va_callv (va_runI (As := [.ref (p0a 0)]) (rest := [.ref q0]) ⟨hx, hb, hml, hown, hts⟩ (kJ0_si l dC dI q0 p0a p0k p0n p0w K9 t9 h _) (cwI 1 hts (gi_z qw1671) rfl rfl rfl (hts _ qw1184) (hts _ qw1672) (hts _ qw1673) rfl (by decide +kernel) ⟨Nat.le_of_ble_eq_true rfl, Nat.le_of_ble_eq_true rfl⟩) ⟨PRE.blind, PRE.of hE hS hFc hPc hKc hDc⟩ rfl rfl hl.1 rfl (lv_room (Nat.le_of_ble_eq_true rfl)) dJ4_toString_0e30d_5 ⟨(show 0 + 1 + 1 ≤ 2 from by omega), (show 0 + 4 + t9.length ≤ 4 + t9.length from by omega)⟩) hS (fun q _ h => hFc q h) hFc (fun u t H locs ht hvm hw hB hz1 hk1 hS => ?_)
  obtain ⟨v9, c9, f9, hf2, hf3, b1, b2, b3⟩ := hB
  rw [ht] at b1
  obtain ⟨hP, hD, hK⟩ := JOINC (wc := (List.flatten ([[(q0, .inr (13, [.null, .int 0, .int 0, .int 0]))], (oJ4 (p0a 0) p0a p0k p0n p0w)] : List va_W))) (wr := (List.flatten ([] : List va_W))) (w1 := (List.flatten ([[(q0, .inr (13, [.ref v9, .int 0, .int 0, .int 0]))], [(v9, .inl (c9, t9.length, .inl f9))], (oJ4 (p0a 0) p0a p0k p0n p0w)] : List va_W))) (t1 := (List.flatten ([[], [(c9, .byte)], (tJ4 p0k)] : List (List (ClassId × FieldType))))) hPx hDx hKx hk1 hFc b1 (va_K.moved hvm.symm b2) b3
  have hP : va_P (dC, dI) cls (List.flatten ([[(q0, .inr (13, [.ref v9, .int 0, .int 0, .int 0]))], [(v9, .inl (c9, t9.length, .inl f9))], (oJ4 (p0a 0) p0a p0k p0n p0w)] : List va_W)) H := vP_fb hP
  have hD : va_D A (List.flatten ([[(q0, .inr (13, [.ref v9, .int 0, .int 0, .int 0]))], [(v9, .inl (c9, t9.length, .inl f9))], (oJ4 (p0a 0) p0a p0k p0n p0w)] : List va_W)) := vD_fb hD
  have hK : va_K (dC, dI) cls (List.flatten ([[], [(c9, .byte)], (tJ4 p0k)] : List (List (ClassId × FieldType)))) s := vK_fb hK
  refine W.widen (k := 2) (n := 4 + t9.length) (by omega) (by omega) ?_
  subst hQ
  exact W.aret (v := .ref q0) (rt := .object RJ0) hx hb hr (Or.inl ⟨_, rfl⟩) (Or.inr ⟨_, rfl⟩) (fun t ht hW => ⟨⟨(), q0, rfl, trivial, v9, c9, f9, hf2, hf3, by rw [ht]; exact hP, va_K.moved hW.alike hK, hD⟩, hS.F ht⟩) hS.2.2 dJ4_toString_0e30d_8
