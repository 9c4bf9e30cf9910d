abbrev cX2_put : ByteArray := prog_4_method_6_code
def yX2_put : MethodName := ⟨RX2, "put", "([JII)V"⟩
abbrev cX2_spreadInto : ByteArray := prog_4_method_9_code
def yX2_spreadInto : MethodName := ⟨RX2, "spreadInto", "(II)Z"⟩
theorem dX2_put_0 : decode cX2_put 0 = .ok (.aload_n 1, 1) := by decide +kernel
theorem dX2_put_1 : decode cX2_put 1 = .ok (.iload_n 2, 1) := by decide +kernel
theorem dX2_put_2 : decode cX2_put 2 = .ok (.aload_n 0, 1) := by decide +kernel
theorem dX2_put_3 : decode cX2_put 3 = .ok (.getfield 65, 3) := by decide +kernel
theorem dX2_put_6 : decode cX2_put 6 = .ok (.imul, 1) := by decide +kernel
theorem dX2_put_7 : decode cX2_put 7 = .ok (.iload_n 3, 1) := by decide +kernel
theorem dX2_put_8 : decode cX2_put 8 = .ok (.bipush 6, 2) := by decide +kernel
theorem dX2_put_10 : decode cX2_put 10 = .ok (.ishr, 1) := by decide +kernel
theorem dX2_put_11 : decode cX2_put 11 = .ok (.iadd, 1) := by decide +kernel
theorem dX2_put_12 : decode cX2_put 12 = .ok (.dup2, 1) := by decide +kernel
theorem dX2_put_13 : decode cX2_put 13 = .ok (.laload, 1) := by decide +kernel
theorem dX2_put_14 : decode cX2_put 14 = .ok (.lconst 1, 1) := by decide +kernel
theorem dX2_put_15 : decode cX2_put 15 = .ok (.iload_n 3, 1) := by decide +kernel
theorem dX2_put_16 : decode cX2_put 16 = .ok (.bipush 63, 2) := by decide +kernel
theorem dX2_put_18 : decode cX2_put 18 = .ok (.iand, 1) := by decide +kernel
theorem dX2_put_19 : decode cX2_put 19 = .ok (.lshl, 1) := by decide +kernel
theorem dX2_put_20 : decode cX2_put 20 = .ok (.lor, 1) := by decide +kernel
theorem dX2_put_21 : decode cX2_put 21 = .ok (.lastore, 1) := by decide +kernel
theorem dX2_put_22 : decode cX2_put 22 = .ok (.return_, 1) := by decide +kernel
theorem dX2_spreadInto_0 : decode cX2_spreadInto 0 = .ok (.iload_n 1, 1) := by decide +kernel
theorem dX2_spreadInto_1 : decode cX2_spreadInto 1 = .ok (.ifCond .ge 5, 3) := by decide +kernel
theorem dX2_spreadInto_4 : decode cX2_spreadInto 4 = .ok (.iconst 0, 1) := by decide +kernel
theorem dX2_spreadInto_5 : decode cX2_spreadInto 5 = .ok (.ireturn, 1) := by decide +kernel
theorem dX2_spreadInto_6 : decode cX2_spreadInto 6 = .ok (.iconst 0, 1) := by decide +kernel
theorem dX2_spreadInto_7 : decode cX2_spreadInto 7 = .ok (.istore_n 3, 1) := by decide +kernel
theorem dX2_spreadInto_8 : decode cX2_spreadInto 8 = .ok (.iconst 0, 1) := by decide +kernel
theorem dX2_spreadInto_9 : decode cX2_spreadInto 9 = .ok (.istore 4, 2) := by decide +kernel
theorem dX2_spreadInto_11 : decode cX2_spreadInto 11 = .ok (.iload 4, 2) := by decide +kernel
theorem dX2_spreadInto_13 : decode cX2_spreadInto 13 = .ok (.aload_n 0, 1) := by decide +kernel
theorem dX2_spreadInto_14 : decode cX2_spreadInto 14 = .ok (.getfield 65, 3) := by decide +kernel
theorem dX2_spreadInto_17 : decode cX2_spreadInto 17 = .ok (.if_icmp .ge 99, 3) := by decide +kernel
theorem dX2_spreadInto_20 : decode cX2_spreadInto 20 = .ok (.aload_n 0, 1) := by decide +kernel
theorem dX2_spreadInto_21 : decode cX2_spreadInto 21 = .ok (.getfield 18, 3) := by decide +kernel
theorem dX2_spreadInto_24 : decode cX2_spreadInto 24 = .ok (.iload_n 1, 1) := by decide +kernel
theorem dX2_spreadInto_25 : decode cX2_spreadInto 25 = .ok (.aload_n 0, 1) := by decide +kernel
theorem dX2_spreadInto_26 : decode cX2_spreadInto 26 = .ok (.getfield 65, 3) := by decide +kernel
theorem dX2_spreadInto_29 : decode cX2_spreadInto 29 = .ok (.imul, 1) := by decide +kernel
theorem dX2_spreadInto_30 : decode cX2_spreadInto 30 = .ok (.iload 4, 2) := by decide +kernel
theorem dX2_spreadInto_32 : decode cX2_spreadInto 32 = .ok (.iadd, 1) := by decide +kernel
theorem dX2_spreadInto_33 : decode cX2_spreadInto 33 = .ok (.laload, 1) := by decide +kernel
theorem dX2_spreadInto_34 : decode cX2_spreadInto 34 = .ok (.aload_n 0, 1) := by decide +kernel
theorem dX2_spreadInto_35 : decode cX2_spreadInto 35 = .ok (.getfield 15, 3) := by decide +kernel
theorem dX2_spreadInto_38 : decode cX2_spreadInto 38 = .ok (.iload_n 2, 1) := by decide +kernel
theorem dX2_spreadInto_39 : decode cX2_spreadInto 39 = .ok (.aload_n 0, 1) := by decide +kernel
theorem dX2_spreadInto_40 : decode cX2_spreadInto 40 = .ok (.getfield 65, 3) := by decide +kernel
theorem dX2_spreadInto_43 : decode cX2_spreadInto 43 = .ok (.imul, 1) := by decide +kernel
theorem dX2_spreadInto_44 : decode cX2_spreadInto 44 = .ok (.iload 4, 2) := by decide +kernel
theorem dX2_spreadInto_46 : decode cX2_spreadInto 46 = .ok (.iadd, 1) := by decide +kernel
theorem dX2_spreadInto_47 : decode cX2_spreadInto 47 = .ok (.laload, 1) := by decide +kernel
theorem dX2_spreadInto_48 : decode cX2_spreadInto 48 = .ok (.ldc2_w 175, 3) := by decide +kernel
theorem dX2_spreadInto_51 : decode cX2_spreadInto 51 = .ok (.lxor, 1) := by decide +kernel
theorem dX2_spreadInto_52 : decode cX2_spreadInto 52 = .ok (.land, 1) := by decide +kernel
theorem dX2_spreadInto_53 : decode cX2_spreadInto 53 = .ok (.aload_n 0, 1) := by decide +kernel
theorem dX2_spreadInto_54 : decode cX2_spreadInto 54 = .ok (.getfield 18, 3) := by decide +kernel
theorem dX2_spreadInto_57 : decode cX2_spreadInto 57 = .ok (.iload_n 2, 1) := by decide +kernel
theorem dX2_spreadInto_58 : decode cX2_spreadInto 58 = .ok (.aload_n 0, 1) := by decide +kernel
theorem dX2_spreadInto_59 : decode cX2_spreadInto 59 = .ok (.getfield 65, 3) := by decide +kernel
theorem dX2_spreadInto_62 : decode cX2_spreadInto 62 = .ok (.imul, 1) := by decide +kernel
theorem dX2_spreadInto_63 : decode cX2_spreadInto 63 = .ok (.iload 4, 2) := by decide +kernel
theorem dX2_spreadInto_65 : decode cX2_spreadInto 65 = .ok (.iadd, 1) := by decide +kernel
theorem dX2_spreadInto_66 : decode cX2_spreadInto 66 = .ok (.laload, 1) := by decide +kernel
theorem dX2_spreadInto_67 : decode cX2_spreadInto 67 = .ok (.ldc2_w 175, 3) := by decide +kernel
theorem dX2_spreadInto_70 : decode cX2_spreadInto 70 = .ok (.lxor, 1) := by decide +kernel
theorem dX2_spreadInto_71 : decode cX2_spreadInto 71 = .ok (.land, 1) := by decide +kernel
theorem dX2_spreadInto_72 : decode cX2_spreadInto 72 = .ok (.lstore 5, 2) := by decide +kernel
theorem dX2_spreadInto_74 : decode cX2_spreadInto 74 = .ok (.aload_n 0, 1) := by decide +kernel
theorem dX2_spreadInto_75 : decode cX2_spreadInto 75 = .ok (.getfield 18, 3) := by decide +kernel
theorem dX2_spreadInto_78 : decode cX2_spreadInto 78 = .ok (.iload_n 2, 1) := by decide +kernel
theorem dX2_spreadInto_79 : decode cX2_spreadInto 79 = .ok (.aload_n 0, 1) := by decide +kernel
theorem dX2_spreadInto_80 : decode cX2_spreadInto 80 = .ok (.getfield 65, 3) := by decide +kernel
theorem dX2_spreadInto_83 : decode cX2_spreadInto 83 = .ok (.imul, 1) := by decide +kernel
theorem dX2_spreadInto_84 : decode cX2_spreadInto 84 = .ok (.iload 4, 2) := by decide +kernel
theorem dX2_spreadInto_86 : decode cX2_spreadInto 86 = .ok (.iadd, 1) := by decide +kernel
theorem dX2_spreadInto_87 : decode cX2_spreadInto 87 = .ok (.dup2, 1) := by decide +kernel
theorem dX2_spreadInto_88 : decode cX2_spreadInto 88 = .ok (.laload, 1) := by decide +kernel
theorem dX2_spreadInto_89 : decode cX2_spreadInto 89 = .ok (.lload 5, 2) := by decide +kernel
theorem dX2_spreadInto_91 : decode cX2_spreadInto 91 = .ok (.lor, 1) := by decide +kernel
theorem dX2_spreadInto_92 : decode cX2_spreadInto 92 = .ok (.lastore, 1) := by decide +kernel
theorem dX2_spreadInto_93 : decode cX2_spreadInto 93 = .ok (.iload_n 3, 1) := by decide +kernel
theorem dX2_spreadInto_94 : decode cX2_spreadInto 94 = .ok (.ifCond .ne 10, 3) := by decide +kernel
theorem dX2_spreadInto_97 : decode cX2_spreadInto 97 = .ok (.lload 5, 2) := by decide +kernel
theorem dX2_spreadInto_99 : decode cX2_spreadInto 99 = .ok (.lconst 0, 1) := by decide +kernel
theorem dX2_spreadInto_100 : decode cX2_spreadInto 100 = .ok (.lcmp, 1) := by decide +kernel
theorem dX2_spreadInto_101 : decode cX2_spreadInto 101 = .ok (.ifCond .eq 7, 3) := by decide +kernel
theorem dX2_spreadInto_104 : decode cX2_spreadInto 104 = .ok (.iconst 1, 1) := by decide +kernel
theorem dX2_spreadInto_105 : decode cX2_spreadInto 105 = .ok (.goto 4, 3) := by decide +kernel
theorem dX2_spreadInto_108 : decode cX2_spreadInto 108 = .ok (.iconst 0, 1) := by decide +kernel
theorem dX2_spreadInto_109 : decode cX2_spreadInto 109 = .ok (.istore_n 3, 1) := by decide +kernel
theorem dX2_spreadInto_110 : decode cX2_spreadInto 110 = .ok (.iinc 4 1, 3) := by decide +kernel
theorem dX2_spreadInto_113 : decode cX2_spreadInto 113 = .ok (.goto (-102), 3) := by decide +kernel
theorem dX2_spreadInto_116 : decode cX2_spreadInto 116 = .ok (.iload_n 3, 1) := by decide +kernel
theorem dX2_spreadInto_117 : decode cX2_spreadInto 117 = .ok (.ireturn, 1) := by decide +kernel
theorem qw14 : Cond.fieldLink RX2 18 "Gearbox$Graph" "liveIn" "[J" ∈ gw := mq_3 (i := 28) rfl rfl
theorem qw15 : Cond.fieldLink RX2 15 "Gearbox$Graph" "givenIn" "[J" ∈ gw := mq_3 (i := 27) rfl rfl
theorem qw16 : Cond.constantLong RX2 175 (-1) ∈ gw := mq_8 (i := 239) rfl rfl
def fX2_put (p0w : ST) (p1n : Nat) (p1f : RL) (p2 : Int32) (p3 : Int32) : Option RL := (if ixb ((p2 * (p0w 0 2)) + (p3 >>> (6 &&& 31))) p1n = true then (if ixb ((p2 * (p0w 0 2)) + (p3 >>> (6 &&& 31))) p1n = true then (lt9 (vp_updL p1f (nn ((p2 * (p0w 0 2)) + (p3 >>> (6 &&& 31)))) ((p1f (nn ((p2 * (p0w 0 2)) + (p3 >>> (6 &&& 31))))) ||| (((1 : Int64) <<< (((p3 &&& 63) : Int32).toInt64 &&& 63))))) fun (f3 : RL) => some f3) else none) else none)
set_option maxHeartbeats 16000000 in
set_option maxRecDepth 100000 in
theorem kX2_put {zs : Nat × Nat} (l : Launch) (dC : Nat → ClassId) (dI : Nat → Nat → Nat) (p0a : Nat → Nat) (p0k : Nat → ClassId) (p0n : Nat → Nat) (p0w : ST) (p0l : SL) (p1a : Nat) (p1k : ClassId) (p1n : Nat) (p1f : RL) (p2 : Int32) (p3 : Int32) (sz : Nat) (o : RL) (hrun : fX2_put p0w p1n p1f p2 p3 = some o) : Met l yX2_put (wz yX2_put cX2_put 4 (Option.none : Option Jvm.ClassFile.FieldType)) ({ frames := 0, cells := 0, slots := 0, locals := 0 } : Room) (va_Pc [.ref (p0a 0), .ref p1a, .int p2, .int p3] (PRE zs dC dI ((oX2 (p0a 0) p0a p0k p0n p0w p0l) ++ [(p1a, .inl (p1k, p1n, .inr (.inl p1f)))]) ((tX2 p0k) ++ [(p1k, .long)]) sz)) (va_Qv (fun (_ : Unit) => True) (fun _ t => POST dC dI ((oX2 (p0a 0) p0a p0k p0n p0w p0l) ++ [(p1a, .inl (p1k, p1n, .inr (.inl o)))]) ((tX2 p0k) ++ [(p1k, .long)]) (va_A ((oX2 (p0a 0) p0a p0k p0n p0w p0l) ++ [(p1a, .inl (p1k, p1n, .inr (.inl p1f)))]) sz) t) (va_A ((oX2 (p0a 0) p0a p0k p0n p0w p0l) ++ [(p1a, .inl (p1k, p1n, .inr (.inl p1f)))]) sz)) 0 0 (va_A ((oX2 (p0a 0) p0a p0k p0n p0w p0l) ++ [(p1a, .inl (p1k, p1n, .inr (.inl p1f)))]) sz) := by
  refine Met.ofW (cc := cX2_put) (maxL := 4) (ret := (Option.none : Option Jvm.ClassFile.FieldType)) (by decide) rfl ?_
  intro p e s m args below meth c s₁ B hml hv
  obtain ⟨rfl, hsz, hP, hK, hD0, hE⟩ := hv
  have hx := B.exec
  have hb := B.bytes
  have hr := B.returns
  have hts0 := atoms_spec (ws := wz yX2_put cX2_put 4 (Option.none : Option Jvm.ClassFile.FieldType)) B.pre
  have hts : ∀ w ∈ gw, w.before _ s = true := fun w h => hts0 w (List.mem_cons_of_mem _ h)
  have hown : s.vm.findClass RX2 = some m.cls := findClass_of_methodNamed B.named
  have hlocks := B.notSynchronized
  subst hsz
  have hD := hD0.self (sz := s.heap.size)
  refine gQ9 ?_
  intro Q hQ
  generalize hAe : va_A ((oX2 (p0a 0) p0a p0k p0n p0w p0l) ++ [(p1a, .inl (p1k, p1n, .inr (.inl p1f)))]) s.heap.size = A at hD hE hQ
  have hA : ∀ q : Nat, s.heap.size ≤ q → A q := fun q h => by rw [← hAe]; exact Or.inr h
  have hS : va_S A s.heap s.heap [] := va_S.rf
  have hP : va_P (dC, dI) cls ((oX2 (p0a 0) p0a p0k p0n p0w p0l) ++ [(p1a, .inl (p1k, p1n, .inr (.inl p1f)))]) s.heap := hP
  have hl := lv_entry ([.ref (p0a 0), .ref p1a, .int p2, .int p3]) (n := 4) (Nat.le_of_ble_eq_true rfl)
  rw [lg_entry_eq]
  generalize (lg_sl ([.ref (p0a 0), .ref p1a, .int p2, .int p3]) ++ List.replicate (4 - (lg_sl ([.ref (p0a 0), .ref p1a, .int p2, .int p3])).length) Slot.unset).toArray = ls at hl ⊢
  have hl : lv_has ls 4 [(0, .ref (p0a 0)), (1, .ref p1a), (2, .int p2), (3, .int p3)] := hl
  obtain ⟨H, hHe⟩ : ∃ H, H = s.heap := ⟨_, rfl⟩
  obtain ⟨locs, hle⟩ : ∃ locs : List Loc, locs = [] := ⟨_, rfl⟩
  rw [← hHe] at hP
  have hS : va_S A s.heap H locs := by rw [hHe, hle]; exact hS
  show W p l e ({ frames := 0, cells := 0, slots := 0, locals := 0 } : Room) s m ([.ref (p0a 0), .ref p1a, .int p2, .int p3] : List Value).toArray below meth c s.heap [] 0 0 Q (F0 m 0 ls [])
  rw [← hle]
  refine wH9 hHe ?_
  unfold fX2_put at hrun
  refine lv_aload_n hx hb dX2_put_0 rfl (lv_at hl 1 rfl) ?_
  refine lv_iload_n hx hb dX2_put_1 rfl (lv_at hl 2 rfl) ?_
  refine lv_aload_n hx hb dX2_put_2 rfl (lv_at hl 0 rfl) ?_
  refine va_get (D := (dC, dI)) (ci := 9) (v := .int (p0w 0 2)) (C := RX2) (T := TX2) (N := 19) hx hb hts i_X2 hown hK hP 0 rfl rfl 2 (by decide) (hts _ qw9) (fun _ h9 => h9) rfl dX2_put_3 ?_
  refine lv_imul hx hb dX2_put_6 ?_
  refine lv_iload_n hx hb dX2_put_7 rfl (lv_at hl 3 rfl) ?_
  refine lv_bipush (v := 6) hx hb dX2_put_8 (by decide) ?_
  refine lv_ishr hx hb dX2_put_10 ?_
  refine lv_iadd hx hb dX2_put_11 ?_
  refine lv_dup2_11 hx hb dX2_put_12 rfl rfl ?_
  obtain ⟨hq1, hrun⟩ := chk9 hrun
  refine va_lald hx hb hK hP 16 15 rfl rfl (ixb_in hq1) dX2_put_13 ?_
  refine lv_lconst (v := 1) hx hb dX2_put_14 (by decide) ?_
  refine lv_iload_n hx hb dX2_put_15 rfl (lv_at hl 3 rfl) ?_
  refine lv_bipush (v := 63) hx hb dX2_put_16 (by decide) ?_
  refine lv_iand hx hb dX2_put_18 ?_
  refine lv_lshl (v := (((1 : Int64) <<< (((p3 &&& 63) : Int32).toInt64 &&& 63)))) hx hb dX2_put_19 rfl ?_
  refine lv_lor hx hb dX2_put_20 ?_
  obtain ⟨hq2, hrun⟩ := chk9 hrun
  refine va_last hx hb hK hP hD hS 16 15 rfl rfl (ixb_in hq2) dX2_put_21 (fun H locs hP hD hS => ?_)
  have hP : va_P (dC, dI) cls ((oX2 (p0a 0) p0a p0k p0n p0w p0l) ++ [(p1a, .inl (p1k, p1n, .inr (.inl (vp_updL p1f (nn ((p2 * (p0w 0 2)) + (p3 >>> (6 &&& 31)))) ((p1f (nn ((p2 * (p0w 0 2)) + (p3 >>> (6 &&& 31))))) ||| (((1 : Int64) <<< (((p3 &&& 63) : Int32).toInt64 &&& 63))))))))]) H := hP
  have hD : va_D A ((oX2 (p0a 0) p0a p0k p0n p0w p0l) ++ [(p1a, .inl (p1k, p1n, .inr (.inl (vp_updL p1f (nn ((p2 * (p0w 0 2)) + (p3 >>> (6 &&& 31)))) ((p1f (nn ((p2 * (p0w 0 2)) + (p3 >>> (6 &&& 31))))) ||| (((1 : Int64) <<< (((p3 &&& 63) : Int32).toInt64 &&& 63))))))))]) := hD
  obtain ⟨f3, ef3, hrun⟩ := let9 hrun
  rw [← ef3] at hP hD
  have ho9 : f3 = o := Option.some.inj hrun
  have hP9 : va_P (dC, dI) cls ((oX2 (p0a 0) p0a p0k p0n p0w p0l) ++ [(p1a, .inl (p1k, p1n, .inr (.inl o)))]) H := by first | exact hP | (rw [← ho9]; exact hP)
  have hD9 : va_D A ((oX2 (p0a 0) p0a p0k p0n p0w p0l) ++ [(p1a, .inl (p1k, p1n, .inr (.inl o)))]) := by first | exact hD | (rw [← ho9]; exact hD)
  subst hQ
  exact W.vret hx hb hr (fun t ht hW => ⟨⟨(), rfl, trivial, ⟨by rw [ht]; exact hP9, va_K.moved hW.alike hK, hD9⟩⟩, hS.F ht⟩) hS.2.2 dX2_put_22
def fX2_spreadInto_J109 (kk11 : Int32 → Int32 → SL → Option (Int32 × SL)) (v4_11 : Int32) (l8 : SL) (y0_109 : Int32) : Option (Int32 × SL) := (kk11 y0_109 (v4_11 + 1) l8)
def fX2_spreadInto_J104 (kk11 : Int32 → Int32 → SL → Option (Int32 × SL)) (v4_11 : Int32) (l8 : SL) : Option (Int32 × SL) := (fX2_spreadInto_J109 kk11 v4_11 l8 1)
def fX2_spreadInto_L11 (p0n : Nat → Nat) (p0w : ST) (p1 : Int32) (p2 : Int32) : Nat → Int32 → Int32 → SL → Option (Int32 × SL)
  | 0 => fun _ _ _ => none
  | n_11 + 1 => fun v3_11 v4_11 p0l_11 => (if (p0w 0 2) ≤ v4_11 then some (v3_11, p0l_11) else (if ixb ((p1 * (p0w 0 2)) + v4_11) (p0n 6) = true then (if ixb ((p2 * (p0w 0 2)) + v4_11) (p0n 5) = true then (if ixb ((p2 * (p0w 0 2)) + v4_11) (p0n 6) = true then (if ixb ((p2 * (p0w 0 2)) + v4_11) (p0n 6) = true then (if ixb ((p2 * (p0w 0 2)) + v4_11) (p0n 6) = true then (lt9 (upl p0l_11 6 (nn ((p2 * (p0w 0 2)) + v4_11)) ((p0l_11 6 (nn ((p2 * (p0w 0 2)) + v4_11))) ||| (((p0l_11 6 (nn ((p1 * (p0w 0 2)) + v4_11))) &&& ((p0l_11 5 (nn ((p2 * (p0w 0 2)) + v4_11))) ^^^ ((-1) : Int64))) &&& ((p0l_11 6 (nn ((p2 * (p0w 0 2)) + v4_11))) ^^^ ((-1) : Int64))))) fun (l8 : SL) => (if v3_11 = 0 then (if (lg_cmp (((p0l_11 6 (nn ((p1 * (p0w 0 2)) + v4_11))) &&& ((p0l_11 5 (nn ((p2 * (p0w 0 2)) + v4_11))) ^^^ ((-1) : Int64))) &&& ((p0l_11 6 (nn ((p2 * (p0w 0 2)) + v4_11))) ^^^ ((-1) : Int64))) (0 : Int64)) = 0 then (fX2_spreadInto_J109 (fX2_spreadInto_L11 p0n p0w p1 p2 n_11) v4_11 l8 0) else (fX2_spreadInto_J104 (fX2_spreadInto_L11 p0n p0w p1 p2 n_11) v4_11 l8)) else (fX2_spreadInto_J104 (fX2_spreadInto_L11 p0n p0w p1 p2 n_11) v4_11 l8))) else none) else none) else none) else none) else none))
def fX2_spreadInto (p0n : Nat → Nat) (p0w : ST) (p0l : SL) (p1 : Int32) (p2 : Int32) : Option (Int32 × SL) := (if 0 ≤ p1 then ((fX2_spreadInto_L11 p0n p0w p1 p2 NF 0 0 p0l).bind fun (o11 : Int32 × SL) => (if (o11.1) = 0 ∨ (o11.1) = 1 then some ((o11.1), (o11.2)) else none)) else some (0, p0l))
set_option maxHeartbeats 16000000 in
set_option maxRecDepth 100000 in
theorem kX2_spreadInto {zs : Nat × Nat} (l : Launch) (dC : Nat → ClassId) (dI : Nat → Nat → Nat) (p0a : Nat → Nat) (p0k : Nat → ClassId) (p0n : Nat → Nat) (p0w : ST) (p0l : SL) (p1 : Int32) (p2 : Int32) (sz : Nat) (o : Int32 × SL) (hrun : fX2_spreadInto p0n p0w p0l p1 p2 = some o) : Met l yX2_spreadInto (wz yX2_spreadInto cX2_spreadInto 7 (Option.some Jvm.ClassFile.FieldType.boolean)) ({ frames := 0, cells := 0, slots := 0, locals := 0 } : Room) (va_Pc [.ref (p0a 0), .int p1, .int p2] (PRE zs dC dI (oX2 (p0a 0) p0a p0k p0n p0w p0l) (tX2 p0k) sz)) (va_Qi (fun (r : Int32) (_ : Unit) => r = (o.1)) (fun _ t => POST dC dI (oX2 (p0a 0) p0a p0k p0n p0w (o.2)) (tX2 p0k) (va_A (oX2 (p0a 0) p0a p0k p0n p0w p0l) sz) t) (va_A (oX2 (p0a 0) p0a p0k p0n p0w p0l) sz)) 0 0 (va_A (oX2 (p0a 0) p0a p0k p0n p0w p0l) sz) := by
  refine Met.ofW (cc := cX2_spreadInto) (maxL := 7) (ret := (Option.some Jvm.ClassFile.FieldType.boolean)) (by decide) rfl ?_
  intro p e s m args below meth c s₁ B hml hv
  obtain ⟨rfl, hsz, hP, hK, hD0, hE⟩ := hv
  have hx := B.exec
  have hb := B.bytes
  have hr := B.returns
  have hts0 := atoms_spec (ws := wz yX2_spreadInto cX2_spreadInto 7 (Option.some Jvm.ClassFile.FieldType.boolean)) B.pre
  have hts : ∀ w ∈ gw, w.before _ s = true := fun w h => hts0 w (List.mem_cons_of_mem _ h)
  have hown : s.vm.findClass RX2 = some m.cls := findClass_of_methodNamed B.named
  have hlocks := B.notSynchronized
  subst hsz
  have hD := hD0.self (sz := s.heap.size)
  refine gQ9 ?_
  intro Q hQ
  generalize hAe : va_A (oX2 (p0a 0) p0a p0k p0n p0w p0l) s.heap.size = A at hD hE hQ
  have hA : ∀ q : Nat, s.heap.size ≤ q → A q := fun q h => by rw [← hAe]; exact Or.inr h
  have hS : va_S A s.heap s.heap [] := va_S.rf
  have hP : va_P (dC, dI) cls (oX2 (p0a 0) p0a p0k p0n p0w p0l) s.heap := hP
  have hl := lv_entry ([.ref (p0a 0), .int p1, .int p2]) (n := 7) (Nat.le_of_ble_eq_true rfl)
  rw [lg_entry_eq]
  generalize (lg_sl ([.ref (p0a 0), .int p1, .int p2]) ++ List.replicate (7 - (lg_sl ([.ref (p0a 0), .int p1, .int p2])).length) Slot.unset).toArray = ls at hl ⊢
  have hl : lv_has ls 7 [(0, .ref (p0a 0)), (1, .int p1), (2, .int p2)] := hl
  obtain ⟨H, hHe⟩ : ∃ H, H = s.heap := ⟨_, rfl⟩
  obtain ⟨locs, hle⟩ : ∃ locs : List Loc, locs = [] := ⟨_, rfl⟩
  rw [← hHe] at hP
  have hS : va_S A s.heap H locs := by rw [hHe, hle]; exact hS
  show W p l e ({ frames := 0, cells := 0, slots := 0, locals := 0 } : Room) s m ([.ref (p0a 0), .int p1, .int p2] : List Value).toArray below meth c s.heap [] 0 0 Q (F0 m 0 ls [])
  rw [← hle]
  refine wH9 hHe ?_
  unfold fX2_spreadInto at hrun
  refine lv_iload_n hx hb dX2_spreadInto_0 rfl (lv_at hl 1 rfl) ?_
  rcases br9 hrun with ⟨hc1, hrun⟩ | ⟨hc1, hrun⟩
  · refine lv_if_ge (tgt := 6) hx hb dX2_spreadInto_1 (by decide) (fun _ => ?_) (fun c => absurd hc1 c)
    refine lv_iconst (v := 0) hx hb dX2_spreadInto_6 (by decide) ?_
    refine lv_istore_n (lv' := [(3, .int 0), (0, .ref (p0a 0)), (1, .int p1), (2, .int p2)]) hx hb dX2_spreadInto_7 rfl hl (by decide) rfl (fun ls hl => ?_)
    refine lv_iconst (v := 0) hx hb dX2_spreadInto_8 (by decide) ?_
    refine lv_istore (lv' := [(4, .int 0), (3, .int 0), (0, .ref (p0a 0)), (1, .int p1), (2, .int p2)]) hx hb dX2_spreadInto_9 hl (by decide) rfl (fun ls hl => ?_)
    have L11 : ∀ (n_11 : Nat) (v3_11 : Int32) (v4_11 : Int32) (p0l_11 : SL) (o11 : Int32 × SL) (H : Heap) (locs : List Loc) (ls : Array Slot), (fX2_spreadInto_L11 p0n p0w p1 p2 n_11) v3_11 v4_11 p0l_11 = some o11 → va_P (dC, dI) cls (oX2 (p0a 0) p0a p0k p0n p0w p0l_11) H → va_D A (oX2 (p0a 0) p0a p0k p0n p0w p0l_11) → va_S A s.heap H locs → lv_has ls 7 [(0, .ref (p0a 0)), (1, .int p1), (2, .int p2), (3, .int v3_11), (4, .int v4_11)] → (∀ (H : Heap) (locs : List Loc) (ls : Array Slot), va_P (dC, dI) cls (oX2 (p0a 0) p0a p0k p0n p0w (o11.2)) H → va_D A (oX2 (p0a 0) p0a p0k p0n p0w (o11.2)) → va_S A s.heap H locs → lv_has ls 7 [(3, .int (o11.1))] → W p l e ({ frames := 0, cells := 0, slots := 0, locals := 0 } : Room) s m ([.ref (p0a 0), .int p1, .int p2] : List Value).toArray below meth c H locs 0 0 Q (F0 m 116 ls [])) → W p l e ({ frames := 0, cells := 0, slots := 0, locals := 0 } : Room) s m ([.ref (p0a 0), .int p1, .int p2] : List Value).toArray below meth c H locs 0 0 Q (F0 m 11 ls []) := by
      intro n_11
      induction n_11 with
      | zero => intro v3_11 v4_11 p0l_11 o11 H locs ls hrun; exact (no9 rfl hrun).elim
      | succ n_11 IH11 =>
        intro v3_11 v4_11 p0l_11 o11 H locs ls hrun hP hD hS hl hk11
        unfold fX2_spreadInto_L11 at hrun
        refine lv_iload hx hb dX2_spreadInto_11 (lv_at hl 4 rfl) ?_
        refine lv_aload_n hx hb dX2_spreadInto_13 rfl (lv_at hl 0 rfl) ?_
        refine va_get (D := (dC, dI)) (ci := 9) (v := .int (p0w 0 2)) (C := RX2) (T := TX2) (N := 19) hx hb hts i_X2 hown hK hP 0 rfl rfl 2 (by decide) (hts _ qw9) (fun _ h9 => h9) rfl dX2_spreadInto_14 ?_
        rcases br9 hrun with ⟨hc2, hrun⟩ | ⟨hc2, hrun⟩
        · refine lv_icmp_ge (tgt := 116) hx hb dX2_spreadInto_17 (by decide) (fun _ => ?_) (fun c => absurd hc2 c)
          obtain rfl := (Option.some.inj hrun)
          exact hk11 _ _ _ hP hD hS (lv_sub hl [3] rfl)
        · refine lv_icmp_ge (tgt := 116) hx hb dX2_spreadInto_17 (by decide) (fun c => absurd c hc2) (fun _ => ?_)
          refine lv_aload_n hx hb dX2_spreadInto_20 rfl (lv_at hl 0 rfl) ?_
          refine va_get (D := (dC, dI)) (ci := 9) (v := .ref (p0a 6)) (C := RX2) (T := TX2) (N := 19) hx hb hts i_X2 hown hK hP 0 rfl rfl 5 (by decide) (hts _ qw14) (fun _ h9 => h9) rfl dX2_spreadInto_21 ?_
          refine lv_iload_n hx hb dX2_spreadInto_24 rfl (lv_at hl 1 rfl) ?_
          refine lv_aload_n hx hb dX2_spreadInto_25 rfl (lv_at hl 0 rfl) ?_
          refine va_get (D := (dC, dI)) (ci := 9) (v := .int (p0w 0 2)) (C := RX2) (T := TX2) (N := 19) hx hb hts i_X2 hown hK hP 0 rfl rfl 2 (by decide) (hts _ qw9) (fun _ h9 => h9) rfl dX2_spreadInto_26 ?_
          refine lv_imul hx hb dX2_spreadInto_29 ?_
          refine lv_iload hx hb dX2_spreadInto_30 (lv_at hl 4 rfl) ?_
          refine lv_iadd hx hb dX2_spreadInto_32 ?_
          obtain ⟨hq3, hrun⟩ := chk9 hrun
          refine va_lald hx hb hK hP 3 2 rfl rfl (ixb_in hq3) dX2_spreadInto_33 ?_
          refine lv_aload_n hx hb dX2_spreadInto_34 rfl (lv_at hl 0 rfl) ?_
          refine va_get (D := (dC, dI)) (ci := 9) (v := .ref (p0a 5)) (C := RX2) (T := TX2) (N := 19) hx hb hts i_X2 hown hK hP 0 rfl rfl 4 (by decide) (hts _ qw15) (fun _ h9 => h9) rfl dX2_spreadInto_35 ?_
          refine lv_iload_n hx hb dX2_spreadInto_38 rfl (lv_at hl 2 rfl) ?_
          refine lv_aload_n hx hb dX2_spreadInto_39 rfl (lv_at hl 0 rfl) ?_
          refine va_get (D := (dC, dI)) (ci := 9) (v := .int (p0w 0 2)) (C := RX2) (T := TX2) (N := 19) hx hb hts i_X2 hown hK hP 0 rfl rfl 2 (by decide) (hts _ qw9) (fun _ h9 => h9) rfl dX2_spreadInto_40 ?_
          refine lv_imul hx hb dX2_spreadInto_43 ?_
          refine lv_iload hx hb dX2_spreadInto_44 (lv_at hl 4 rfl) ?_
          refine lv_iadd hx hb dX2_spreadInto_46 ?_
          obtain ⟨hq4, hrun⟩ := chk9 hrun
          refine va_lald hx hb hK hP 2 1 rfl rfl (ixb_in hq4) dX2_spreadInto_47 ?_
          refine lv_ldc2 (v := (-1)) hx hb hown (hts _ qw16) dX2_spreadInto_48 ?_
          refine lv_lxor hx hb dX2_spreadInto_51 ?_
          refine lv_land hx hb dX2_spreadInto_52 ?_
          refine lv_aload_n hx hb dX2_spreadInto_53 rfl (lv_at hl 0 rfl) ?_
          refine va_get (D := (dC, dI)) (ci := 9) (v := .ref (p0a 6)) (C := RX2) (T := TX2) (N := 19) hx hb hts i_X2 hown hK hP 0 rfl rfl 5 (by decide) (hts _ qw14) (fun _ h9 => h9) rfl dX2_spreadInto_54 ?_
          refine lv_iload_n hx hb dX2_spreadInto_57 rfl (lv_at hl 2 rfl) ?_
          refine lv_aload_n hx hb dX2_spreadInto_58 rfl (lv_at hl 0 rfl) ?_
          refine va_get (D := (dC, dI)) (ci := 9) (v := .int (p0w 0 2)) (C := RX2) (T := TX2) (N := 19) hx hb hts i_X2 hown hK hP 0 rfl rfl 2 (by decide) (hts _ qw9) (fun _ h9 => h9) rfl dX2_spreadInto_59 ?_
          refine lv_imul hx hb dX2_spreadInto_62 ?_
          refine lv_iload hx hb dX2_spreadInto_63 (lv_at hl 4 rfl) ?_
          refine lv_iadd hx hb dX2_spreadInto_65 ?_
          obtain ⟨hq5, hrun⟩ := chk9 hrun
          refine va_lald hx hb hK hP 3 2 rfl rfl (ixb_in hq5) dX2_spreadInto_66 ?_
          refine lv_ldc2 (v := (-1)) hx hb hown (hts _ qw16) dX2_spreadInto_67 ?_
          refine lv_lxor hx hb dX2_spreadInto_70 ?_
          refine lv_land hx hb dX2_spreadInto_71 ?_
          refine lv_lstore (lv' := [(5, .long (((p0l_11 6 (nn ((p1 * (p0w 0 2)) + v4_11))) &&& ((p0l_11 5 (nn ((p2 * (p0w 0 2)) + v4_11))) ^^^ ((-1) : Int64))) &&& ((p0l_11 6 (nn ((p2 * (p0w 0 2)) + v4_11))) ^^^ ((-1) : Int64)))), (0, .ref (p0a 0)), (1, .int p1), (2, .int p2), (3, .int v3_11), (4, .int v4_11)]) hx hb dX2_spreadInto_72 hl (by decide) rfl (fun ls hl => ?_)
          refine lv_aload_n hx hb dX2_spreadInto_74 rfl (lv_at hl 1 rfl) ?_
          refine va_get (D := (dC, dI)) (ci := 9) (v := .ref (p0a 6)) (C := RX2) (T := TX2) (N := 19) hx hb hts i_X2 hown hK hP 0 rfl rfl 5 (by decide) (hts _ qw14) (fun _ h9 => h9) rfl dX2_spreadInto_75 ?_
          refine lv_iload_n hx hb dX2_spreadInto_78 rfl (lv_at hl 3 rfl) ?_
          refine lv_aload_n hx hb dX2_spreadInto_79 rfl (lv_at hl 1 rfl) ?_
          refine va_get (D := (dC, dI)) (ci := 9) (v := .int (p0w 0 2)) (C := RX2) (T := TX2) (N := 19) hx hb hts i_X2 hown hK hP 0 rfl rfl 2 (by decide) (hts _ qw9) (fun _ h9 => h9) rfl dX2_spreadInto_80 ?_
          refine lv_imul hx hb dX2_spreadInto_83 ?_
          refine lv_iload hx hb dX2_spreadInto_84 (lv_at hl 5 rfl) ?_
          refine lv_iadd hx hb dX2_spreadInto_86 ?_
          refine lv_dup2_11 hx hb dX2_spreadInto_87 rfl rfl ?_
          obtain ⟨hq6, hrun⟩ := chk9 hrun
          refine va_lald hx hb hK hP 3 2 rfl rfl (ixb_in hq6) dX2_spreadInto_88 ?_
          refine lv_lload hx hb dX2_spreadInto_89 (lv_at hl 0 rfl) ?_
          refine lv_lor hx hb dX2_spreadInto_91 ?_
          obtain ⟨hq7, hrun⟩ := chk9 hrun
          refine va_last hx hb hK hP hD hS 3 2 rfl rfl (ixb_in hq7) dX2_spreadInto_92 (fun H locs hP hD hS => ?_)
          have hP : va_P (dC, dI) cls (oX2 (p0a 0) p0a p0k p0n p0w (upl p0l_11 6 (nn ((p2 * (p0w 0 2)) + v4_11)) ((p0l_11 6 (nn ((p2 * (p0w 0 2)) + v4_11))) ||| (((p0l_11 6 (nn ((p1 * (p0w 0 2)) + v4_11))) &&& ((p0l_11 5 (nn ((p2 * (p0w 0 2)) + v4_11))) ^^^ ((-1) : Int64))) &&& ((p0l_11 6 (nn ((p2 * (p0w 0 2)) + v4_11))) ^^^ ((-1) : Int64)))))) H := hP
          have hD : va_D A (oX2 (p0a 0) p0a p0k p0n p0w (upl p0l_11 6 (nn ((p2 * (p0w 0 2)) + v4_11)) ((p0l_11 6 (nn ((p2 * (p0w 0 2)) + v4_11))) ||| (((p0l_11 6 (nn ((p1 * (p0w 0 2)) + v4_11))) &&& ((p0l_11 5 (nn ((p2 * (p0w 0 2)) + v4_11))) ^^^ ((-1) : Int64))) &&& ((p0l_11 6 (nn ((p2 * (p0w 0 2)) + v4_11))) ^^^ ((-1) : Int64)))))) := hD
          obtain ⟨l8, el8, hrun⟩ := let9 hrun
          rw [← el8] at hP hD
          refine lv_iload_n hx hb dX2_spreadInto_93 rfl (lv_at hl 4 rfl) ?_
          have J109 : ∀ (y0_109 : Int32) (H : Heap) (locs : List Loc) (ls : Array Slot), (fX2_spreadInto_J109 (fX2_spreadInto_L11 p0n p0w p1 p2 n_11) v4_11 l8 y0_109) = some o11 → va_P (dC, dI) cls (oX2 (p0a 0) p0a p0k p0n p0w l8) H → va_D A (oX2 (p0a 0) p0a p0k p0n p0w l8) → va_S A s.heap H locs → lv_has ls 7 [(0, .ref (p0a 0)), (1, .int p1), (2, .int p2), (4, .int v4_11)] → W p l e ({ frames := 0, cells := 0, slots := 0, locals := 0 } : Room) s m ([.ref (p0a 0), .int p1, .int p2] : List Value).toArray below meth c H locs 0 0 Q (F0 m 109 ls [.int y0_109]) := by
            intro y0_109 H locs ls hrun hP hD hS hl
            unfold fX2_spreadInto_J109 at hrun
            refine lv_istore_n (lv' := [(3, .int y0_109), (0, .ref (p0a 0)), (1, .int p1), (2, .int p2), (4, .int v4_11)]) hx hb dX2_spreadInto_109 rfl hl (by decide) rfl (fun ls hl => ?_)
            refine lv_iinc (v := (v4_11 + 1)) (lv' := [(4, .int (v4_11 + 1)), (3, .int y0_109), (0, .ref (p0a 0)), (1, .int p1), (2, .int p2)]) hx hb dX2_spreadInto_110 hl (k := 4) rfl rfl (by decide) rfl (fun ls hl => ?_)
            refine lv_goto (tgt := 11) hx hb dX2_spreadInto_113 (by decide) ?_
            exact IH11 y0_109 (v4_11 + 1) l8 o11 _ _ _ hrun hP hD hS (lv_sub hl [2, 3, 4, 1, 0] rfl) hk11
          have J104 : ∀ (H : Heap) (locs : List Loc) (ls : Array Slot), (fX2_spreadInto_J104 (fX2_spreadInto_L11 p0n p0w p1 p2 n_11) v4_11 l8) = some o11 → va_P (dC, dI) cls (oX2 (p0a 0) p0a p0k p0n p0w l8) H → va_D A (oX2 (p0a 0) p0a p0k p0n p0w l8) → va_S A s.heap H locs → lv_has ls 7 [(0, .ref (p0a 0)), (1, .int p1), (2, .int p2), (4, .int v4_11)] → W p l e ({ frames := 0, cells := 0, slots := 0, locals := 0 } : Room) s m ([.ref (p0a 0), .int p1, .int p2] : List Value).toArray below meth c H locs 0 0 Q (F0 m 104 ls []) := by
            intro  H locs ls hrun hP hD hS hl
            unfold fX2_spreadInto_J104 at hrun
            refine lv_iconst (v := 1) hx hb dX2_spreadInto_104 (by decide) ?_
            refine lv_goto (tgt := 109) hx hb dX2_spreadInto_105 (by decide) ?_
            exact J109 1 _ _ _ hrun hP hD hS (lv_sub hl [0, 1, 2, 3] rfl)
          rcases br9 hrun with ⟨hc9, hrun⟩ | ⟨hc9, hrun⟩
          · refine lv_if_ne (tgt := 104) hx hb dX2_spreadInto_94 (by decide) (fun c => absurd hc9 c) (fun _ => ?_)
            refine lv_lload hx hb dX2_spreadInto_97 (lv_at hl 0 rfl) ?_
            refine lv_lconst (v := 0) hx hb dX2_spreadInto_99 (by decide) ?_
            refine W.lcmp hx hb dX2_spreadInto_100 ?_
            rcases br9 hrun with ⟨hc10, hrun⟩ | ⟨hc10, hrun⟩
            · refine lv_if_eq (tgt := 108) hx hb dX2_spreadInto_101 (by decide) (fun _ => ?_) (fun c => absurd hc10 c)
              refine lv_iconst (v := 0) hx hb dX2_spreadInto_108 (by decide) ?_
              exact J109 0 _ _ _ hrun hP hD hS (lv_sub hl [1, 2, 3, 5] rfl)
            · refine lv_if_eq (tgt := 108) hx hb dX2_spreadInto_101 (by decide) (fun c => absurd c hc10) (fun _ => ?_)
              exact J104 _ _ _ hrun hP hD hS (lv_sub hl [1, 2, 3, 5] rfl)
          · refine lv_if_ne (tgt := 104) hx hb dX2_spreadInto_94 (by decide) (fun _ => ?_) (fun c => absurd c hc9)
            exact J104 _ _ _ hrun hP hD hS (lv_sub hl [1, 2, 3, 5] rfl)
    obtain ⟨o11, hc11, hrun⟩ := bnd9 hrun
    refine L11 NF 0 0 p0l o11 _ _ _ hc11 hP hD hS (lv_sub hl [2, 3, 4, 1, 0] rfl) ?_
    intro H locs ls hP hD hS hl
    have hl := hl
    refine lv_iload_n hx hb dX2_spreadInto_116 rfl (lv_at hl 0 rfl) ?_
    obtain ⟨hz9, hrun⟩ := chk9 hrun
    have ho9 : ((o11.1), (o11.2)) = o := Option.some.inj hrun
    have hP9 : va_P (dC, dI) cls (oX2 (p0a 0) p0a p0k p0n p0w (o.2)) H := by first | exact hP | (rw [← ho9]; exact hP)
    have hD9 : va_D A (oX2 (p0a 0) p0a p0k p0n p0w (o.2)) := by first | exact hD | (rw [← ho9]; exact hD)
    subst hQ
    exact W.zret (v := (o11.1)) hx hb hr (bz9 hz9) (fun t ht hW => ⟨⟨(o11.1), (), rfl, (by rw [← ho9]), ⟨by rw [ht]; exact hP9, va_K.moved hW.alike hK, hD9⟩⟩, hS.F ht⟩) hS.2.2 dX2_spreadInto_117
  · refine lv_if_ge (tgt := 6) hx hb dX2_spreadInto_1 (by decide) (fun c => absurd c hc1) (fun _ => ?_)
    refine lv_iconst (v := 0) hx hb dX2_spreadInto_4 (by decide) ?_
    have ho9 : (0, p0l) = o := Option.some.inj hrun
    have hP9 : va_P (dC, dI) cls (oX2 (p0a 0) p0a p0k p0n p0w (o.2)) H := by first | exact hP | (rw [← ho9]; exact hP)
    have hD9 : va_D A (oX2 (p0a 0) p0a p0k p0n p0w (o.2)) := by first | exact hD | (rw [← ho9]; exact hD)
    subst hQ
    exact W.zret (v := 0) hx hb hr (by decide) (fun t ht hW => ⟨⟨0, (), rfl, (by rw [← ho9]), ⟨by rw [ht]; exact hP9, va_K.moved hW.alike hK, hD9⟩⟩, hS.F ht⟩) hS.2.2 dX2_spreadInto_5
