abbrev cX7_readFunction : ByteArray := prog_9_method_3_code
def yX7_readFunction : MethodName := ⟨RX7, "readFunction", "(I)V"⟩
theorem dX7_readFunction_0 : decode cX7_readFunction 0 = .ok (.iload_n 1, 1) := by decide +kernel
theorem dX7_readFunction_1 : decode cX7_readFunction 1 = .ok (.bipush 6, 2) := by decide +kernel
theorem dX7_readFunction_3 : decode cX7_readFunction 3 = .ok (.if_icmp .lt 7, 3) := by decide +kernel
theorem dX7_readFunction_6 : decode cX7_readFunction 6 = .ok (.aload_n 0, 1) := by decide +kernel
theorem dX7_readFunction_10 : decode cX7_readFunction 10 = .ok (.aload_n 0, 1) := by decide +kernel
theorem dX7_readFunction_11 : decode cX7_readFunction 11 = .ok (.iload_n 1, 1) := by decide +kernel
theorem dX7_readFunction_12 : decode cX7_readFunction 12 = .ok (.putfield 89, 3) := by decide +kernel
theorem dX7_readFunction_15 : decode cX7_readFunction 15 = .ok (.aload_n 0, 1) := by decide +kernel
theorem dX7_readFunction_16 : decode cX7_readFunction 16 = .ok (.iconst 0, 1) := by decide +kernel
theorem dX7_readFunction_17 : decode cX7_readFunction 17 = .ok (.putfield 92, 3) := by decide +kernel
theorem dX7_readFunction_20 : decode cX7_readFunction 20 = .ok (.aload_n 0, 1) := by decide +kernel
theorem dX7_readFunction_21 : decode cX7_readFunction 21 = .ok (.iconst 0, 1) := by decide +kernel
theorem dX7_readFunction_22 : decode cX7_readFunction 22 = .ok (.putfield 95, 3) := by decide +kernel
theorem dX7_readFunction_25 : decode cX7_readFunction 25 = .ok (.aload_n 0, 1) := by decide +kernel
theorem dX7_readFunction_26 : decode cX7_readFunction 26 = .ok (.bipush 7, 2) := by decide +kernel
theorem dX7_readFunction_28 : decode cX7_readFunction 28 = .ok (.invokevirtual 98, 3) := by decide +kernel
theorem dX7_readFunction_31 : decode cX7_readFunction 31 = .ok (.aload_n 0, 1) := by decide +kernel
theorem dX7_readFunction_32 : decode cX7_readFunction 32 = .ok (.getfield 41, 3) := by decide +kernel
theorem dX7_readFunction_35 : decode cX7_readFunction 35 = .ok (.aload_n 0, 1) := by decide +kernel
theorem dX7_readFunction_36 : decode cX7_readFunction 36 = .ok (.getfield 37, 3) := by decide +kernel
theorem dX7_readFunction_39 : decode cX7_readFunction 39 = .ok (.getfield 101, 3) := by decide +kernel
theorem dX7_readFunction_42 : decode cX7_readFunction 42 = .ok (.iload_n 1, 1) := by decide +kernel
theorem dX7_readFunction_43 : decode cX7_readFunction 43 = .ok (.invokevirtual 105, 3) := by decide +kernel
theorem dX7_readFunction_46 : decode cX7_readFunction 46 = .ok (.ifCond .lt 15, 3) := by decide +kernel
theorem dX7_readFunction_49 : decode cX7_readFunction 49 = .ok (.aload_n 0, 1) := by decide +kernel
theorem dX7_readFunction_50 : decode cX7_readFunction 50 = .ok (.iconst 3, 1) := by decide +kernel
theorem dX7_readFunction_51 : decode cX7_readFunction 51 = .ok (.aload_n 0, 1) := by decide +kernel
theorem dX7_readFunction_52 : decode cX7_readFunction 52 = .ok (.getfield 37, 3) := by decide +kernel
theorem dX7_readFunction_55 : decode cX7_readFunction 55 = .ok (.getfield 80, 3) := by decide +kernel
theorem dX7_readFunction_58 : decode cX7_readFunction 58 = .ok (.invokevirtual 109, 3) := by decide +kernel
theorem dX7_readFunction_61 : decode cX7_readFunction 61 = .ok (.aload_n 0, 1) := by decide +kernel
theorem dX7_readFunction_62 : decode cX7_readFunction 62 = .ok (.getfield 41, 3) := by decide +kernel
theorem dX7_readFunction_65 : decode cX7_readFunction 65 = .ok (.getfield 113, 3) := by decide +kernel
theorem dX7_readFunction_68 : decode cX7_readFunction 68 = .ok (.iload_n 1, 1) := by decide +kernel
theorem dX7_readFunction_69 : decode cX7_readFunction 69 = .ok (.aload_n 0, 1) := by decide +kernel
theorem dX7_readFunction_70 : decode cX7_readFunction 70 = .ok (.getfield 37, 3) := by decide +kernel
theorem dX7_readFunction_73 : decode cX7_readFunction 73 = .ok (.getfield 101, 3) := by decide +kernel
theorem dX7_readFunction_76 : decode cX7_readFunction 76 = .ok (.lastore, 1) := by decide +kernel
theorem dX7_readFunction_77 : decode cX7_readFunction 77 = .ok (.aload_n 0, 1) := by decide +kernel
theorem dX7_readFunction_78 : decode cX7_readFunction 78 = .ok (.getfield 41, 3) := by decide +kernel
theorem dX7_readFunction_81 : decode cX7_readFunction 81 = .ok (.getfield 115, 3) := by decide +kernel
theorem dX7_readFunction_84 : decode cX7_readFunction 84 = .ok (.iload_n 1, 1) := by decide +kernel
theorem dX7_readFunction_85 : decode cX7_readFunction 85 = .ok (.aload_n 0, 1) := by decide +kernel
theorem dX7_readFunction_86 : decode cX7_readFunction 86 = .ok (.getfield 37, 3) := by decide +kernel
theorem dX7_readFunction_89 : decode cX7_readFunction 89 = .ok (.getfield 80, 3) := by decide +kernel
theorem dX7_readFunction_92 : decode cX7_readFunction 92 = .ok (.iastore, 1) := by decide +kernel
theorem dX7_readFunction_93 : decode cX7_readFunction 93 = .ok (.aload_n 0, 1) := by decide +kernel
theorem dX7_readFunction_94 : decode cX7_readFunction 94 = .ok (.iconst 3, 1) := by decide +kernel
theorem dX7_readFunction_95 : decode cX7_readFunction 95 = .ok (.invokevirtual 98, 3) := by decide +kernel
theorem dX7_readFunction_98 : decode cX7_readFunction 98 = .ok (.aload_n 0, 1) := by decide +kernel
theorem dX7_readFunction_99 : decode cX7_readFunction 99 = .ok (.getfield 41, 3) := by decide +kernel
theorem dX7_readFunction_102 : decode cX7_readFunction 102 = .ok (.iload_n 1, 1) := by decide +kernel
theorem dX7_readFunction_103 : decode cX7_readFunction 103 = .ok (.iconst 1, 1) := by decide +kernel
theorem dX7_readFunction_104 : decode cX7_readFunction 104 = .ok (.iadd, 1) := by decide +kernel
theorem dX7_readFunction_105 : decode cX7_readFunction 105 = .ok (.putfield 118, 3) := by decide +kernel
theorem dX7_readFunction_108 : decode cX7_readFunction 108 = .ok (.aload_n 0, 1) := by decide +kernel
theorem dX7_readFunction_109 : decode cX7_readFunction 109 = .ok (.getfield 41, 3) := by decide +kernel
theorem dX7_readFunction_112 : decode cX7_readFunction 112 = .ok (.getfield 121, 3) := by decide +kernel
theorem dX7_readFunction_115 : decode cX7_readFunction 115 = .ok (.iload_n 1, 1) := by decide +kernel
theorem dX7_readFunction_116 : decode cX7_readFunction 116 = .ok (.iconst 0, 1) := by decide +kernel
theorem dX7_readFunction_117 : decode cX7_readFunction 117 = .ok (.iastore, 1) := by decide +kernel
theorem dX7_readFunction_118 : decode cX7_readFunction 118 = .ok (.aload_n 0, 1) := by decide +kernel
theorem dX7_readFunction_119 : decode cX7_readFunction 119 = .ok (.getfield 41, 3) := by decide +kernel
theorem dX7_readFunction_122 : decode cX7_readFunction 122 = .ok (.getfield 124, 3) := by decide +kernel
theorem dX7_readFunction_125 : decode cX7_readFunction 125 = .ok (.iload_n 1, 1) := by decide +kernel
theorem dX7_readFunction_126 : decode cX7_readFunction 126 = .ok (.iconst 0, 1) := by decide +kernel
theorem dX7_readFunction_127 : decode cX7_readFunction 127 = .ok (.iastore, 1) := by decide +kernel
theorem dX7_readFunction_128 : decode cX7_readFunction 128 = .ok (.aload_n 0, 1) := by decide +kernel
theorem dX7_readFunction_129 : decode cX7_readFunction 129 = .ok (.getfield 41, 3) := by decide +kernel
theorem dX7_readFunction_132 : decode cX7_readFunction 132 = .ok (.getfield 127, 3) := by decide +kernel
theorem dX7_readFunction_135 : decode cX7_readFunction 135 = .ok (.iload_n 1, 1) := by decide +kernel
theorem dX7_readFunction_136 : decode cX7_readFunction 136 = .ok (.aload_n 0, 1) := by decide +kernel
theorem dX7_readFunction_137 : decode cX7_readFunction 137 = .ok (.getfield 41, 3) := by decide +kernel
theorem dX7_readFunction_140 : decode cX7_readFunction 140 = .ok (.getfield 130, 3) := by decide +kernel
theorem dX7_readFunction_143 : decode cX7_readFunction 143 = .ok (.iastore, 1) := by decide +kernel
theorem dX7_readFunction_144 : decode cX7_readFunction 144 = .ok (.aload_n 0, 1) := by decide +kernel
theorem dX7_readFunction_145 : decode cX7_readFunction 145 = .ok (.bipush 40, 2) := by decide +kernel
theorem dX7_readFunction_147 : decode cX7_readFunction 147 = .ok (.invokevirtual 98, 3) := by decide +kernel
theorem dX7_readFunction_150 : decode cX7_readFunction 150 = .ok (.aload_n 0, 1) := by decide +kernel
theorem dX7_readFunction_151 : decode cX7_readFunction 151 = .ok (.invokevirtual 133, 3) := by decide +kernel
theorem dX7_readFunction_154 : decode cX7_readFunction 154 = .ok (.aload_n 0, 1) := by decide +kernel
theorem dX7_readFunction_155 : decode cX7_readFunction 155 = .ok (.bipush 41, 2) := by decide +kernel
theorem dX7_readFunction_157 : decode cX7_readFunction 157 = .ok (.invokevirtual 98, 3) := by decide +kernel
theorem dX7_readFunction_160 : decode cX7_readFunction 160 = .ok (.aload_n 0, 1) := by decide +kernel
theorem dX7_readFunction_161 : decode cX7_readFunction 161 = .ok (.invokevirtual 136, 3) := by decide +kernel
theorem dX7_readFunction_164 : decode cX7_readFunction 164 = .ok (.aload_n 0, 1) := by decide +kernel
theorem dX7_readFunction_165 : decode cX7_readFunction 165 = .ok (.getfield 41, 3) := by decide +kernel
theorem dX7_readFunction_168 : decode cX7_readFunction 168 = .ok (.iconst 0, 1) := by decide +kernel
theorem dX7_readFunction_169 : decode cX7_readFunction 169 = .ok (.iconst 0, 1) := by decide +kernel
theorem dX7_readFunction_170 : decode cX7_readFunction 170 = .ok (.iconst 0, 1) := by decide +kernel
theorem dX7_readFunction_171 : decode cX7_readFunction 171 = .ok (.invokevirtual 139, 3) := by decide +kernel
theorem dX7_readFunction_174 : decode cX7_readFunction 174 = .ok (.aload_n 0, 1) := by decide +kernel
theorem dX7_readFunction_175 : decode cX7_readFunction 175 = .ok (.getfield 41, 3) := by decide +kernel
theorem dX7_readFunction_178 : decode cX7_readFunction 178 = .ok (.bipush 24, 2) := by decide +kernel
theorem dX7_readFunction_180 : decode cX7_readFunction 180 = .ok (.iconst 0, 1) := by decide +kernel
theorem dX7_readFunction_181 : decode cX7_readFunction 181 = .ok (.iconst 0, 1) := by decide +kernel
theorem dX7_readFunction_182 : decode cX7_readFunction 182 = .ok (.invokevirtual 139, 3) := by decide +kernel
theorem dX7_readFunction_185 : decode cX7_readFunction 185 = .ok (.aload_n 0, 1) := by decide +kernel
theorem dX7_readFunction_186 : decode cX7_readFunction 186 = .ok (.getfield 41, 3) := by decide +kernel
theorem dX7_readFunction_189 : decode cX7_readFunction 189 = .ok (.getfield 143, 3) := by decide +kernel
theorem dX7_readFunction_192 : decode cX7_readFunction 192 = .ok (.iload_n 1, 1) := by decide +kernel
theorem dX7_readFunction_193 : decode cX7_readFunction 193 = .ok (.aload_n 0, 1) := by decide +kernel
theorem dX7_readFunction_194 : decode cX7_readFunction 194 = .ok (.getfield 41, 3) := by decide +kernel
theorem dX7_readFunction_197 : decode cX7_readFunction 197 = .ok (.getfield 130, 3) := by decide +kernel
theorem dX7_readFunction_200 : decode cX7_readFunction 200 = .ok (.iastore, 1) := by decide +kernel
theorem dX7_readFunction_201 : decode cX7_readFunction 201 = .ok (.return_, 1) := by decide +kernel
theorem qw1465 : Cond.fieldLink RX7 113 "Gearbox$Program" "name" "[J" ∈ gw := mq_3 (i := 156) rfl rfl
theorem qw1466 : Cond.fieldLink RX7 115 "Gearbox$Program" "namePlace" "[I" ∈ gw := mq_3 (i := 158) rfl rfl
theorem qw1467 : Cond.fieldLink RX7 124 "Gearbox$Program" "variables" "[I" ∈ gw := mq_3 (i := 167) rfl rfl
theorem qw1468 : Cond.fieldLink RX7 127 "Gearbox$Program" "from" "[I" ∈ gw := mq_3 (i := 170) rfl rfl
theorem qw1469 : Cond.code yX7_readParameters cX7_readParameters 5 (Option.none : Option Jvm.ClassFile.FieldType) ∈ gw := mq_5 (i := 72) rfl rfl
theorem qw1470 : Cond.methodLink RX7 133 yX7_readParameters ∈ gw := mq_5 (i := 69) rfl rfl
theorem qw1471 : Cond.instanceMethod yX7_readParameters ∈ gw := mq_5 (i := 71) rfl rfl
theorem qw1472 : Cond.selects RX7 yX7_readParameters yX7_readParameters ∈ gw := mk_s (i := 136) rfl rfl
theorem qw1473 : Cond.fieldLink RX7 143 "Gearbox$Program" "to" "[I" ∈ gw := mq_3 (i := 174) rfl rfl
set_option maxHeartbeats 16000000 in
set_option maxRecDepth 100000 in
theorem kX7_readFunction {zs : ZS} (l : Launch) (kk_readBlock : ST → SL → ST → SL → ST → SL → Option (ST × SL × ST × ST × SL)) (F9 L9 : Nat) (hkk_readBlock : ∀ {zs : ZS} (dC : Nat → ClassId) (dI : Nat → Nat → Nat) (p0a : Nat → Nat) (p0k : Nat → ClassId) (p0w : ST) (p0l : SL) (aK : Nat → Nat) (aV : Nat → Nat) (p0_2a : Nat → Nat) (p0_2k : Nat → ClassId) (p0_2w : ST) (p0_2l : SL) (p0_1a : Nat → Nat) (p0_1k : Nat → ClassId) (p0_1w : ST) (p0_1l : SL) (sz : Nat) (o : ST × SL × ST × ST × SL) (hrun : kk_readBlock p0w p0l p0_2w p0_2l p0_1w p0_1l = some o), Met l yX7_readBlock (wz yX7_readBlock cX7_readBlock 3 (Option.none : Option Jvm.ClassFile.FieldType)) ({ frames := F9, cells := 0, slots := 0, locals := L9 } : Room) (va_Pc [.ref (p0a 0)] (PRE (zA zs (st9 aK aV)) dC dI (List.flatten ([(oX7 (p0a 0) p0a p0k p0w p0l), (oX6 (p0a 3) p0_2a p0_2k p0_2w p0_2l), (oX10 (p0a 2) p0_1a p0_1k p0_1w p0_1l)] : List va_W)) (List.flatten ([(tX7 p0k), (tX6 p0_2k), (tX10 p0_1k)] : List (List (ClassId × FieldType)))) sz)) (va_Qv (fun (_ : Unit) => True) (fun _ t => POST dC dI (List.flatten ([(oX7 (p0a 0) p0a p0k (o.1) (o.2.1)), (oX6 (p0a 3) p0_2a p0_2k (o.2.2.1) p0_2l), (oX10 (p0a 2) p0_1a p0_1k (o.2.2.2.1) (o.2.2.2.2))] : List va_W)) (List.flatten ([(tX7 p0k), (tX6 p0_2k), (tX10 p0_1k)] : List (List (ClassId × FieldType)))) (va_A (List.flatten ([(oX7 (p0a 0) p0a p0k p0w p0l), (oX6 (p0a 3) p0_2a p0_2k p0_2w p0_2l), (oX10 (p0a 2) p0_1a p0_1k p0_1w p0_1l)] : List va_W)) sz) t) (va_A (List.flatten ([(oX7 (p0a 0) p0a p0k p0w p0l), (oX6 (p0a 3) p0_2a p0_2k p0_2w p0_2l), (oX10 (p0a 2) p0_1a p0_1k p0_1w p0_1l)] : List va_W)) sz)) 0 0 (va_A (List.flatten ([(oX7 (p0a 0) p0a p0k p0w p0l), (oX6 (p0a 3) p0_2a p0_2k p0_2w p0_2l), (oX10 (p0a 2) p0_1a p0_1k p0_1w p0_1l)] : List va_W)) sz)) (dC : Nat → ClassId) (dI : Nat → Nat → Nat) (p0a : Nat → Nat) (p0k : Nat → ClassId) (p0w : ST) (p0l : SL) (p1 : Int32) (aK : Nat → Nat) (aV : Nat → Nat) (p0_2a : Nat → Nat) (p0_2k : Nat → ClassId) (p0_2w : ST) (p0_2l : SL) (p0_1a : Nat → Nat) (p0_1k : Nat → ClassId) (p0_1w : ST) (p0_1l : SL) (sz : Nat) (o : ST × SL × ST × SL × ST × SL) (hrun : fX7_readFunction kk_readBlock p0w p0l p1 p0_2w p0_2l p0_1w p0_1l = some o) : Met l yX7_readFunction (wz yX7_readFunction cX7_readFunction 2 (Option.none : Option Jvm.ClassFile.FieldType)) ({ frames := F9 + 8, cells := 0, slots := 0, locals := L9 + 400 } : Room) (va_Pc [.ref (p0a 0), .int p1] (PRE (zA zs (st9 aK aV)) dC dI (List.flatten ([(oX7 (p0a 0) p0a p0k p0w p0l), (oX6 (p0a 3) p0_2a p0_2k p0_2w p0_2l), (oX10 (p0a 2) p0_1a p0_1k p0_1w p0_1l)] : List va_W)) (List.flatten ([(tX7 p0k), (tX6 p0_2k), (tX10 p0_1k)] : List (List (ClassId × FieldType)))) sz)) (va_Qv (fun (_ : Unit) => True) (fun _ t => POST dC dI (List.flatten ([(oX7 (p0a 0) p0a p0k (o.1) (o.2.1)), (oX6 (p0a 3) p0_2a p0_2k (o.2.2.1) (o.2.2.2.1)), (oX10 (p0a 2) p0_1a p0_1k (o.2.2.2.2.1) (o.2.2.2.2.2))] : List va_W)) (List.flatten ([(tX7 p0k), (tX6 p0_2k), (tX10 p0_1k)] : List (List (ClassId × FieldType)))) (va_A (List.flatten ([(oX7 (p0a 0) p0a p0k p0w p0l), (oX6 (p0a 3) p0_2a p0_2k p0_2w p0_2l), (oX10 (p0a 2) p0_1a p0_1k p0_1w p0_1l)] : List va_W)) sz) t) (va_A (List.flatten ([(oX7 (p0a 0) p0a p0k p0w p0l), (oX6 (p0a 3) p0_2a p0_2k p0_2w p0_2l), (oX10 (p0a 2) p0_1a p0_1k p0_1w p0_1l)] : List va_W)) sz)) 0 0 (va_A (List.flatten ([(oX7 (p0a 0) p0a p0k p0w p0l), (oX6 (p0a 3) p0_2a p0_2k p0_2w p0_2l), (oX10 (p0a 2) p0_1a p0_1k p0_1w p0_1l)] : List va_W)) sz) := by
  refine Met.ofW (cc := cX7_readFunction) (maxL := 2) (ret := (Option.none : Option Jvm.ClassFile.FieldType)) (by decide) rfl ?_
  intro p e s m args below meth c s₁ B hml hv
  obtain ⟨rfl, hsz, hP, hK, hD0, hE⟩ := hv
  have hx := B.exec
  have hb := B.bytes
  have hr := B.returns
  have hts0 := atoms_spec (ws := wz yX7_readFunction cX7_readFunction 2 (Option.none : Option Jvm.ClassFile.FieldType)) B.pre
  have hts : ∀ w ∈ gw, w.before _ s = true := fun w h => hts0 w (List.mem_cons_of_mem _ h)
  have hown : s.vm.findClass RX7 = some m.cls := findClass_of_methodNamed B.named
  have hlocks := B.notSynchronized
  subst hsz
  have hD := hD0.self (sz := s.heap.size)
  refine gQ9 ?_
  intro Q hQ
  generalize hAe : va_A (List.flatten ([(oX7 (p0a 0) p0a p0k p0w p0l), (oX6 (p0a 3) p0_2a p0_2k p0_2w p0_2l), (oX10 (p0a 2) p0_1a p0_1k p0_1w p0_1l)] : List va_W)) s.heap.size = A at hD hE hQ
  have hA : ∀ q : Nat, s.heap.size ≤ q → A q := fun q h => by rw [← hAe]; exact Or.inr h
  have hro := ENV.ex hE
  have hro_st := hro.2
  replace hro := hro.1
  have hS : va_S A s.heap s.heap [] := va_S.rf
  have hP : va_P (dC, dI) cls (List.flatten ([(oX7 (p0a 0) p0a p0k p0w p0l), (oX6 (p0a 3) p0_2a p0_2k p0_2w p0_2l), (oX10 (p0a 2) p0_1a p0_1k p0_1w p0_1l)] : List va_W)) s.heap := hP
  have hl := lv_entry ([.ref (p0a 0), .int p1]) (n := 2) (Nat.le_of_ble_eq_true rfl)
  rw [lg_entry_eq]
  generalize (lg_sl ([.ref (p0a 0), .int p1]) ++ List.replicate (2 - (lg_sl ([.ref (p0a 0), .int p1])).length) Slot.unset).toArray = ls at hl ⊢
  have hl : lv_has ls 2 [(0, .ref (p0a 0)), (1, .int p1)] := hl
  obtain ⟨H, hHe⟩ : ∃ H, H = s.heap := ⟨_, rfl⟩
  obtain ⟨locs, hle⟩ : ∃ locs : List Loc, locs = [] := ⟨_, rfl⟩
  rw [← hHe] at hP
  have hS : va_S A s.heap H locs := by rw [hHe, hle]; exact hS
  show W p l e ({ frames := F9 + 8, cells := 0, slots := 0, locals := L9 + 400 } : Room) s m ([.ref (p0a 0), .int p1] : List Value).toArray below meth c s.heap [] 0 0 Q (F0 m 0 ls [])
  rw [← hle]
  refine wH9 hHe ?_
  unfold fX7_readFunction at hrun
  refine lv_iload_n hx hb dX7_readFunction_0 rfl (lv_at hl 1 rfl) ?_
  refine lv_bipush (v := 6) hx hb dX7_readFunction_1 (by decide) ?_
  have J10 : ∀ (H : Heap) (locs : List Loc) (ls : Array Slot), (fX7_readFunction_J10 p0w p0l p1 p0_2w p0_2l p0_1w p0_1l kk_readBlock) = some o → va_P (dC, dI) cls (List.flatten ([(oX7 (p0a 0) p0a p0k p0w p0l), (oX6 (p0a 3) p0_2a p0_2k p0_2w p0_2l), (oX10 (p0a 2) p0_1a p0_1k p0_1w p0_1l)] : List va_W)) H → va_D A (List.flatten ([(oX7 (p0a 0) p0a p0k p0w p0l), (oX6 (p0a 3) p0_2a p0_2k p0_2w p0_2l), (oX10 (p0a 2) p0_1a p0_1k p0_1w p0_1l)] : List va_W)) → va_K (dC, dI) cls (List.flatten ([(tX7 p0k), (tX6 p0_2k), (tX10 p0_1k)] : List (List (ClassId × FieldType)))) s → va_S A s.heap H locs → lv_has ls 2 [(0, .ref (p0a 0)), (1, .int p1)] → W p l e ({ frames := F9 + 8, cells := 0, slots := 0, locals := L9 + 400 } : Room) s m ([.ref (p0a 0), .int p1] : List Value).toArray below meth c H locs 0 0 Q (F0 m 10 ls []) := by
    intro  H locs ls hrun hP hD hK hS hl 
    unfold fX7_readFunction_J10 at hrun
    refine lv_aload_n hx hb dX7_readFunction_10 rfl (lv_at hl 0 rfl) ?_
    refine lv_iload_n hx hb dX7_readFunction_11 rfl (lv_at hl 1 rfl) ?_
    refine va_put (D := (dC, dI)) (ci := 1) (v := .int p1) (ty := .int) (C := RX7) (T := TX7) (N := 18) hx hb hts i_X7 tyX7 tyX7_ok nmX7 hown hK hP hD hS 0 rfl rfl 3 (by decide) (hts _ qw27) (fun _ h9 => h9) rfl (by decide +kernel) rfl rfl (Nat.le_of_ble_eq_true rfl) dX7_readFunction_12 (fun H locs hP hD hS => ?_)
    have hP : va_P (dC, dI) cls (List.flatten ([(oX7 (p0a 0) p0a p0k (upw p0w 0 3 p1) p0l), (oX6 (p0a 3) p0_2a p0_2k p0_2w p0_2l), (oX10 (p0a 2) p0_1a p0_1k p0_1w p0_1l)] : List va_W)) H := hP
    have hD : va_D A (List.flatten ([(oX7 (p0a 0) p0a p0k (upw p0w 0 3 p1) p0l), (oX6 (p0a 3) p0_2a p0_2k p0_2w p0_2l), (oX10 (p0a 2) p0_1a p0_1k p0_1w p0_1l)] : List va_W)) := hD
    obtain ⟨w1, ew1, hrun⟩ := let9 hrun
    rw [← ew1] at hP hD
    refine lv_aload_n hx hb dX7_readFunction_15 rfl (lv_at hl 0 rfl) ?_
    refine lv_iconst (v := 0) hx hb dX7_readFunction_16 (by decide) ?_
    refine va_put (D := (dC, dI)) (ci := 1) (v := .int 0) (ty := .int) (C := RX7) (T := TX7) (N := 18) hx hb hts i_X7 tyX7 tyX7_ok nmX7 hown hK hP hD hS 0 rfl rfl 9 (by decide) (hts _ qw34) (fun _ h9 => h9) rfl (by decide +kernel) rfl rfl (Nat.le_of_ble_eq_true rfl) dX7_readFunction_17 (fun H locs hP hD hS => ?_)
    have hP : va_P (dC, dI) cls (List.flatten ([(oX7 (p0a 0) p0a p0k (upw w1 0 9 0) p0l), (oX6 (p0a 3) p0_2a p0_2k p0_2w p0_2l), (oX10 (p0a 2) p0_1a p0_1k p0_1w p0_1l)] : List va_W)) H := hP
    have hD : va_D A (List.flatten ([(oX7 (p0a 0) p0a p0k (upw w1 0 9 0) p0l), (oX6 (p0a 3) p0_2a p0_2k p0_2w p0_2l), (oX10 (p0a 2) p0_1a p0_1k p0_1w p0_1l)] : List va_W)) := hD
    obtain ⟨w2, ew2, hrun⟩ := let9 hrun
    rw [← ew2] at hP hD
    refine lv_aload_n hx hb dX7_readFunction_20 rfl (lv_at hl 0 rfl) ?_
    refine lv_iconst (v := 0) hx hb dX7_readFunction_21 (by decide) ?_
    refine va_put (D := (dC, dI)) (ci := 1) (v := .int 0) (ty := .int) (C := RX7) (T := TX7) (N := 18) hx hb hts i_X7 tyX7 tyX7_ok nmX7 hown hK hP hD hS 0 rfl rfl 12 (by decide) (hts _ qw68) (fun _ h9 => h9) rfl (by decide +kernel) rfl rfl (Nat.le_of_ble_eq_true rfl) dX7_readFunction_22 (fun H locs hP hD hS => ?_)
    have hP : va_P (dC, dI) cls (List.flatten ([(oX7 (p0a 0) p0a p0k (upw w2 0 12 0) p0l), (oX6 (p0a 3) p0_2a p0_2k p0_2w p0_2l), (oX10 (p0a 2) p0_1a p0_1k p0_1w p0_1l)] : List va_W)) H := hP
    have hD : va_D A (List.flatten ([(oX7 (p0a 0) p0a p0k (upw w2 0 12 0) p0l), (oX6 (p0a 3) p0_2a p0_2k p0_2w p0_2l), (oX10 (p0a 2) p0_1a p0_1k p0_1w p0_1l)] : List va_W)) := hD
    obtain ⟨w3, ew3, hrun⟩ := let9 hrun
    rw [← ew3] at hP hD
    refine lv_aload_n hx hb dX7_readFunction_25 rfl (lv_at hl 0 rfl) ?_
    refine lv_bipush (v := 7) hx hb dX7_readFunction_26 (by decide) ?_
    obtain ⟨o_4, hc_4, hrun⟩ := bnd9 hrun
    have hPx : va_P (dC, dI) cls ((List.flatten ([(oX7 (p0a 0) p0a p0k w3 p0l), (oX10 (p0a 2) p0_1a p0_1k p0_1w p0_1l)] : List va_W)) ++ (List.flatten ([(oX6 (p0a 3) p0_2a p0_2k p0_2w p0_2l)] : List va_W))) H := vP_fa (vP_perm hP (bP (((List.Perm.refl _)).trans ((((((List.Perm.refl _)).cons _).trans (List.Perm.swap _ _ _))).cons _))))
    have hDx : va_D A ((List.flatten ([(oX7 (p0a 0) p0a p0k w3 p0l), (oX10 (p0a 2) p0_1a p0_1k p0_1w p0_1l)] : List va_W)) ++ (List.flatten ([(oX6 (p0a 3) p0_2a p0_2k p0_2w p0_2l)] : List va_W))) := vD_fa (vD_perm hD (bP (((List.Perm.refl _)).trans ((((((List.Perm.refl _)).cons _).trans (List.Perm.swap _ _ _))).cons _))))
    have hKx : va_K (dC, dI) cls ((List.flatten ([(tX7 p0k), (tX10 p0_1k)] : List (List (ClassId × FieldType)))) ++ (List.flatten ([(tX6 p0_2k)] : List (List (ClassId × FieldType))))) s := vK_fa (vK_perm hK (bP (((List.Perm.refl _)).trans ((((((List.Perm.refl _)).cons _).trans (List.Perm.swap _ _ _))).cons _))))
    have hPc := vP_l hPx
    have hDc := vD_l hDx
    have hKc := vK_l hKx
    have hFc := vfree hDx hS hA
    refine va_callv (va_runV (As := [.int 7]) (rest := []) ⟨hx, hb, hml, hown, hts⟩ (kX7_expect l dC dI (p0a := p0a) (p0k := p0k) (p0w := w3) (p0l := p0l) (p1 := 7) (aK := aK) (aV := aV) (p0_1a := p0_1a) (p0_1k := p0_1k) (p0_1w := p0_1w) (p0_1l := p0_1l) (sz := _) (o := o_4) (hrun := hc_4)) (cwV 1 hts (gi_V qw1386 qw1387 qw1388 qw65 (gi_z qw1385)) rfl rfl rfl (by decide +kernel) ⟨rmF (Nat.le_of_ble_eq_true rfl), rmL (Nat.le_of_ble_eq_true rfl)⟩) ⟨PRE.blind, va_recv hKc hPc (ci := 1) (q0 := 0) rfl rfl, PRE.of (ENV.add hE st9_m hro_st) hS hFc hPc hKc hDc⟩ rfl rfl hl.1 rfl (lv_room (Nat.le_of_ble_eq_true rfl)) dX7_readFunction_28 ⟨(Nat.le_of_ble_eq_true rfl), (Nat.le_of_ble_eq_true rfl)⟩) hS (fun q _ h => hFc q h) hFc (fun u t H locs ht hvm hw hB hz1 hk1 hS => ?_)
    obtain ⟨b1, b2, b3⟩ := hB
    rw [ht] at b1
    obtain ⟨hP, hD, hK⟩ := JOINC (wc := (List.flatten ([(oX7 (p0a 0) p0a p0k w3 p0l), (oX10 (p0a 2) p0_1a p0_1k p0_1w p0_1l)] : List va_W))) (wr := (List.flatten ([(oX6 (p0a 3) p0_2a p0_2k p0_2w p0_2l)] : List va_W))) (w1 := (List.flatten ([(oX7 (p0a 0) p0a p0k (o_4.1) p0l), (oX10 (p0a 2) p0_1a p0_1k (o_4.2.1) (o_4.2.2))] : List va_W))) (t1 := (List.flatten ([(tX7 p0k), (tX10 p0_1k)] : List (List (ClassId × FieldType))))) hPx hDx hKx hk1 hFc b1 (va_K.moved hvm.symm b2) b3
    have hP : va_P (dC, dI) cls (List.flatten ([(oX7 (p0a 0) p0a p0k (o_4.1) p0l), (oX6 (p0a 3) p0_2a p0_2k p0_2w p0_2l), (oX10 (p0a 2) p0_1a p0_1k (o_4.2.1) (o_4.2.2))] : List va_W)) H := vP_perm (vP_fb hP) (bP (((List.Perm.refl _)).trans ((((((List.Perm.refl _)).cons _).trans (List.Perm.swap _ _ _))).cons _)))
    have hD : va_D A (List.flatten ([(oX7 (p0a 0) p0a p0k (o_4.1) p0l), (oX6 (p0a 3) p0_2a p0_2k p0_2w p0_2l), (oX10 (p0a 2) p0_1a p0_1k (o_4.2.1) (o_4.2.2))] : List va_W)) := vD_perm (vD_fb hD) (bP (((List.Perm.refl _)).trans ((((((List.Perm.refl _)).cons _).trans (List.Perm.swap _ _ _))).cons _)))
    have hK : va_K (dC, dI) cls (List.flatten ([(tX7 p0k), (tX6 p0_2k), (tX10 p0_1k)] : List (List (ClassId × FieldType)))) s := vK_perm (vK_fb hK) (bP (((List.Perm.refl _)).trans ((((((List.Perm.refl _)).cons _).trans (List.Perm.swap _ _ _))).cons _)))
    refine lv_aload_n hx hb dX7_readFunction_31 rfl (lv_at hl 0 rfl) ?_
    refine va_get (D := (dC, dI)) (ci := 1) (v := .ref (p0a 3)) (C := RX7) (T := TX7) (N := 18) hx hb hts i_X7 hown hK hP 0 rfl rfl 2 (by decide) (hts _ qw26) (fun _ h9 => h9) rfl dX7_readFunction_32 ?_
    refine lv_aload_n hx hb dX7_readFunction_35 rfl (lv_at hl 0 rfl) ?_
    refine va_get (D := (dC, dI)) (ci := 1) (v := .ref (p0a 2)) (C := RX7) (T := TX7) (N := 18) hx hb hts i_X7 hown hK hP 0 rfl rfl 1 (by decide) (hts _ qw45) (fun _ h9 => h9) rfl dX7_readFunction_36 ?_
    refine va_get (D := (dC, dI)) (ci := 0) (v := .long ((o_4.2.2) 0 5)) (C := RX10) (T := TX10) (N := 8) hx hb hts i_X10 hown hK hP 20 rfl rfl 5 (by decide) (hts _ qw70) (fun _ h9 => h9) rfl dX7_readFunction_39 ?_
    refine lv_iload_n hx hb dX7_readFunction_42 rfl (lv_at hl 1 rfl) ?_
    obtain ⟨o_5, hc_5, hrun⟩ := bnd9 hrun
    have hPx : va_P (dC, dI) cls ((List.flatten ([(oX6 (p0a 3) p0_2a p0_2k p0_2w p0_2l)] : List va_W)) ++ (List.flatten ([(oX7 (p0a 0) p0a p0k (o_4.1) p0l), (oX10 (p0a 2) p0_1a p0_1k (o_4.2.1) (o_4.2.2))] : List va_W))) H := vP_fa (vP_perm hP (bP ((((List.Perm.refl _)).cons _).trans (List.Perm.swap _ _ _))))
    have hDx : va_D A ((List.flatten ([(oX6 (p0a 3) p0_2a p0_2k p0_2w p0_2l)] : List va_W)) ++ (List.flatten ([(oX7 (p0a 0) p0a p0k (o_4.1) p0l), (oX10 (p0a 2) p0_1a p0_1k (o_4.2.1) (o_4.2.2))] : List va_W))) := vD_fa (vD_perm hD (bP ((((List.Perm.refl _)).cons _).trans (List.Perm.swap _ _ _))))
    have hKx : va_K (dC, dI) cls ((List.flatten ([(tX6 p0_2k)] : List (List (ClassId × FieldType)))) ++ (List.flatten ([(tX7 p0k), (tX10 p0_1k)] : List (List (ClassId × FieldType))))) s := vK_fa (vK_perm hK (bP ((((List.Perm.refl _)).cons _).trans (List.Perm.swap _ _ _))))
    have hPc := vP_l hPx
    have hDc := vD_l hDx
    have hKc := vK_l hKx
    have hFc := vfree hDx hS hA
    refine va_calli (va_runV (As := [.long ((o_4.2.2) 0 5), .int p1]) (rest := []) ⟨hx, hb, hml, hown, hts⟩ (kX6_find l dC dI (p0a := (st0 (p0a 3) p0_2a)) (p0k := p0_2k) (p0w := p0_2w) (p0l := p0_2l) (p1 := ((o_4.2.2) 0 5)) (p2 := p1) (sz := _) (o := o_5) (hrun := hc_5)) (cwV 2 hts (gi_V qw53 qw54 qw55 qw33 (gi_z qw52)) rfl rfl rfl (by decide +kernel) ⟨rmF (Nat.le_of_ble_eq_true rfl), rmL (Nat.le_of_ble_eq_true rfl)⟩) ⟨PRE.blind, va_recv hKc hPc (ci := 2) (q0 := 0) rfl rfl, PRE.of hE hS hFc hPc hKc hDc⟩ rfl rfl hl.1 rfl (lv_room (Nat.le_of_ble_eq_true rfl)) dX7_readFunction_43 ⟨(Nat.le_of_ble_eq_true rfl), (Nat.le_of_ble_eq_true rfl)⟩) hS (fun q _ h => hFc q h) hFc (fun r6 u t H locs ht hvm hw hB hz1 hk1 hS => ?_)
    obtain ⟨b1, b2, b3⟩ := hB
    rw [ht] at b1
    obtain ⟨hP, hD, hK⟩ := JOINC (wc := (List.flatten ([(oX6 (p0a 3) p0_2a p0_2k p0_2w p0_2l)] : List va_W))) (wr := (List.flatten ([(oX7 (p0a 0) p0a p0k (o_4.1) p0l), (oX10 (p0a 2) p0_1a p0_1k (o_4.2.1) (o_4.2.2))] : List va_W))) (w1 := (List.flatten ([(oX6 (p0a 3) p0_2a p0_2k p0_2w p0_2l)] : List va_W))) (t1 := (List.flatten ([(tX6 p0_2k)] : List (List (ClassId × FieldType))))) hPx hDx hKx hk1 hFc b1 (va_K.moved hvm.symm b2) b3
    have hP : va_P (dC, dI) cls (List.flatten ([(oX7 (p0a 0) p0a p0k (o_4.1) p0l), (oX6 (p0a 3) p0_2a p0_2k p0_2w p0_2l), (oX10 (p0a 2) p0_1a p0_1k (o_4.2.1) (o_4.2.2))] : List va_W)) H := vP_perm (vP_fb hP) (bP ((((List.Perm.refl _)).cons _).trans (List.Perm.swap _ _ _)))
    have hD : va_D A (List.flatten ([(oX7 (p0a 0) p0a p0k (o_4.1) p0l), (oX6 (p0a 3) p0_2a p0_2k p0_2w p0_2l), (oX10 (p0a 2) p0_1a p0_1k (o_4.2.1) (o_4.2.2))] : List va_W)) := vD_perm (vD_fb hD) (bP ((((List.Perm.refl _)).cons _).trans (List.Perm.swap _ _ _)))
    have hK : va_K (dC, dI) cls (List.flatten ([(tX7 p0k), (tX6 p0_2k), (tX10 p0_1k)] : List (List (ClassId × FieldType)))) s := vK_perm (vK_fb hK) (bP ((((List.Perm.refl _)).cons _).trans (List.Perm.swap _ _ _)))
    obtain rfl : o_5 = r6 := hw.symm
    have J61 : ∀ (p0w_61 : ST) (H : Heap) (locs : List Loc) (ls : Array Slot), (fX7_readFunction_J61 p0l p1 p0_2w p0_2l o_4 kk_readBlock p0w_61) = some o → va_P (dC, dI) cls (List.flatten ([(oX7 (p0a 0) p0a p0k p0w_61 p0l), (oX6 (p0a 3) p0_2a p0_2k p0_2w p0_2l), (oX10 (p0a 2) p0_1a p0_1k (o_4.2.1) (o_4.2.2))] : List va_W)) H → va_D A (List.flatten ([(oX7 (p0a 0) p0a p0k p0w_61 p0l), (oX6 (p0a 3) p0_2a p0_2k p0_2w p0_2l), (oX10 (p0a 2) p0_1a p0_1k (o_4.2.1) (o_4.2.2))] : List va_W)) → va_K (dC, dI) cls (List.flatten ([(tX7 p0k), (tX6 p0_2k), (tX10 p0_1k)] : List (List (ClassId × FieldType)))) s → va_S A s.heap H locs → lv_has ls 2 [(0, .ref (p0a 0)), (1, .int p1)] → W p l e ({ frames := F9 + 8, cells := 0, slots := 0, locals := L9 + 400 } : Room) s m ([.ref (p0a 0), .int p1] : List Value).toArray below meth c H locs 0 0 Q (F0 m 61 ls []) := by
      intro p0w_61 H locs ls hrun hP hD hK hS hl 
      unfold fX7_readFunction_J61 at hrun
      refine lv_aload_n hx hb dX7_readFunction_61 rfl (lv_at hl 0 rfl) ?_
      refine va_get (D := (dC, dI)) (ci := 1) (v := .ref (p0a 3)) (C := RX7) (T := TX7) (N := 18) hx hb hts i_X7 hown hK hP 0 rfl rfl 2 (by decide) (hts _ qw26) (fun _ h9 => h9) rfl dX7_readFunction_62 ?_
      refine va_get (D := (dC, dI)) (ci := 2) (v := .ref (p0_2a 2)) (C := RX6) (T := TX6) (N := 13) hx hb hts i_X6 hown hK hP 9 rfl rfl 1 (by decide) (hts _ qw1465) (fun _ h9 => h9) rfl dX7_readFunction_65 ?_
      refine lv_iload_n hx hb dX7_readFunction_68 rfl (lv_at hl 1 rfl) ?_
      refine lv_aload_n hx hb dX7_readFunction_69 rfl (lv_at hl 0 rfl) ?_
      refine va_get (D := (dC, dI)) (ci := 1) (v := .ref (p0a 2)) (C := RX7) (T := TX7) (N := 18) hx hb hts i_X7 hown hK hP 0 rfl rfl 1 (by decide) (hts _ qw45) (fun _ h9 => h9) rfl dX7_readFunction_70 ?_
      refine va_get (D := (dC, dI)) (ci := 0) (v := .long ((o_4.2.2) 0 5)) (C := RX10) (T := TX10) (N := 8) hx hb hts i_X10 hown hK hP 20 rfl rfl 5 (by decide) (hts _ qw70) (fun _ h9 => h9) rfl dX7_readFunction_73 ?_
      obtain ⟨hq7, hrun⟩ := chk9 hrun
      refine va_last hx hb hK hP hD hS 10 8 rfl rfl (ixb_in hq7) dX7_readFunction_76 (fun H locs hP hD hS => ?_)
      have hP : va_P (dC, dI) cls (List.flatten ([(oX7 (p0a 0) p0a p0k p0w_61 p0l), (oX6 (p0a 3) p0_2a p0_2k p0_2w (upl p0_2l 2 (nn p1) ((o_4.2.2) 0 5))), (oX10 (p0a 2) p0_1a p0_1k (o_4.2.1) (o_4.2.2))] : List va_W)) H := hP
      have hD : va_D A (List.flatten ([(oX7 (p0a 0) p0a p0k p0w_61 p0l), (oX6 (p0a 3) p0_2a p0_2k p0_2w (upl p0_2l 2 (nn p1) ((o_4.2.2) 0 5))), (oX10 (p0a 2) p0_1a p0_1k (o_4.2.1) (o_4.2.2))] : List va_W)) := hD
      obtain ⟨l8, el8, hrun⟩ := let9 hrun
      rw [← el8] at hP hD
      refine lv_aload_n hx hb dX7_readFunction_77 rfl (lv_at hl 0 rfl) ?_
      refine va_get (D := (dC, dI)) (ci := 1) (v := .ref (p0a 3)) (C := RX7) (T := TX7) (N := 18) hx hb hts i_X7 hown hK hP 0 rfl rfl 2 (by decide) (hts _ qw26) (fun _ h9 => h9) rfl dX7_readFunction_78 ?_
      refine va_get (D := (dC, dI)) (ci := 2) (v := .ref (p0_2a 3)) (C := RX6) (T := TX6) (N := 13) hx hb hts i_X6 hown hK hP 9 rfl rfl 2 (by decide) (hts _ qw1466) (fun _ h9 => h9) rfl dX7_readFunction_81 ?_
      refine lv_iload_n hx hb dX7_readFunction_84 rfl (lv_at hl 1 rfl) ?_
      refine lv_aload_n hx hb dX7_readFunction_85 rfl (lv_at hl 0 rfl) ?_
      refine va_get (D := (dC, dI)) (ci := 1) (v := .ref (p0a 2)) (C := RX7) (T := TX7) (N := 18) hx hb hts i_X7 hown hK hP 0 rfl rfl 1 (by decide) (hts _ qw45) (fun _ h9 => h9) rfl dX7_readFunction_86 ?_
      refine va_get (D := (dC, dI)) (ci := 0) (v := .int ((o_4.2.1) 0 3)) (C := RX10) (T := TX10) (N := 8) hx hb hts i_X10 hown hK hP 20 rfl rfl 3 (by decide) (hts _ qw69) (fun _ h9 => h9) rfl dX7_readFunction_89 ?_
      obtain ⟨hq9, hrun⟩ := chk9 hrun
      refine va_iast hx hb hK hP hD hS 11 9 rfl rfl (ixb_in hq9) dX7_readFunction_92 (fun H locs hP hD hS => ?_)
      have hP : va_P (dC, dI) cls (List.flatten ([(oX7 (p0a 0) p0a p0k p0w_61 p0l), (oX6 (p0a 3) p0_2a p0_2k (upw p0_2w 3 (nn p1) ((o_4.2.1) 0 3)) l8), (oX10 (p0a 2) p0_1a p0_1k (o_4.2.1) (o_4.2.2))] : List va_W)) H := hP
      have hD : va_D A (List.flatten ([(oX7 (p0a 0) p0a p0k p0w_61 p0l), (oX6 (p0a 3) p0_2a p0_2k (upw p0_2w 3 (nn p1) ((o_4.2.1) 0 3)) l8), (oX10 (p0a 2) p0_1a p0_1k (o_4.2.1) (o_4.2.2))] : List va_W)) := hD
      obtain ⟨w10, ew10, hrun⟩ := let9 hrun
      rw [← ew10] at hP hD
      refine lv_aload_n hx hb dX7_readFunction_93 rfl (lv_at hl 0 rfl) ?_
      refine lv_iconst (v := 3) hx hb dX7_readFunction_94 (by decide) ?_
      obtain ⟨o_11, hc_11, hrun⟩ := bnd9 hrun
      have hPx : va_P (dC, dI) cls ((List.flatten ([(oX7 (p0a 0) p0a p0k p0w_61 p0l), (oX10 (p0a 2) p0_1a p0_1k (o_4.2.1) (o_4.2.2))] : List va_W)) ++ (List.flatten ([(oX6 (p0a 3) p0_2a p0_2k w10 l8)] : List va_W))) H := vP_fa (vP_perm hP (bP (((List.Perm.refl _)).trans ((((((List.Perm.refl _)).cons _).trans (List.Perm.swap _ _ _))).cons _))))
      have hDx : va_D A ((List.flatten ([(oX7 (p0a 0) p0a p0k p0w_61 p0l), (oX10 (p0a 2) p0_1a p0_1k (o_4.2.1) (o_4.2.2))] : List va_W)) ++ (List.flatten ([(oX6 (p0a 3) p0_2a p0_2k w10 l8)] : List va_W))) := vD_fa (vD_perm hD (bP (((List.Perm.refl _)).trans ((((((List.Perm.refl _)).cons _).trans (List.Perm.swap _ _ _))).cons _))))
      have hKx : va_K (dC, dI) cls ((List.flatten ([(tX7 p0k), (tX10 p0_1k)] : List (List (ClassId × FieldType)))) ++ (List.flatten ([(tX6 p0_2k)] : List (List (ClassId × FieldType))))) s := vK_fa (vK_perm hK (bP (((List.Perm.refl _)).trans ((((((List.Perm.refl _)).cons _).trans (List.Perm.swap _ _ _))).cons _))))
      have hPc := vP_l hPx
      have hDc := vD_l hDx
      have hKc := vK_l hKx
      have hFc := vfree hDx hS hA
      refine va_callv (va_runV (As := [.int 3]) (rest := []) ⟨hx, hb, hml, hown, hts⟩ (kX7_expect l dC dI (p0a := p0a) (p0k := p0k) (p0w := p0w_61) (p0l := p0l) (p1 := 3) (aK := aK) (aV := aV) (p0_1a := p0_1a) (p0_1k := p0_1k) (p0_1w := (o_4.2.1)) (p0_1l := (o_4.2.2)) (sz := _) (o := o_11) (hrun := hc_11)) (cwV 1 hts (gi_V qw1386 qw1387 qw1388 qw65 (gi_z qw1385)) rfl rfl rfl (by decide +kernel) ⟨rmF (Nat.le_of_ble_eq_true rfl), rmL (Nat.le_of_ble_eq_true rfl)⟩) ⟨PRE.blind, va_recv hKc hPc (ci := 1) (q0 := 0) rfl rfl, PRE.of (ENV.add hE st9_m hro_st) hS hFc hPc hKc hDc⟩ rfl rfl hl.1 rfl (lv_room (Nat.le_of_ble_eq_true rfl)) dX7_readFunction_95 ⟨(Nat.le_of_ble_eq_true rfl), (Nat.le_of_ble_eq_true rfl)⟩) hS (fun q _ h => hFc q h) hFc (fun u t H locs ht hvm hw hB hz1 hk1 hS => ?_)
      obtain ⟨b1, b2, b3⟩ := hB
      rw [ht] at b1
      obtain ⟨hP, hD, hK⟩ := JOINC (wc := (List.flatten ([(oX7 (p0a 0) p0a p0k p0w_61 p0l), (oX10 (p0a 2) p0_1a p0_1k (o_4.2.1) (o_4.2.2))] : List va_W))) (wr := (List.flatten ([(oX6 (p0a 3) p0_2a p0_2k w10 l8)] : List va_W))) (w1 := (List.flatten ([(oX7 (p0a 0) p0a p0k (o_11.1) p0l), (oX10 (p0a 2) p0_1a p0_1k (o_11.2.1) (o_11.2.2))] : List va_W))) (t1 := (List.flatten ([(tX7 p0k), (tX10 p0_1k)] : List (List (ClassId × FieldType))))) hPx hDx hKx hk1 hFc b1 (va_K.moved hvm.symm b2) b3
      have hP : va_P (dC, dI) cls (List.flatten ([(oX7 (p0a 0) p0a p0k (o_11.1) p0l), (oX6 (p0a 3) p0_2a p0_2k w10 l8), (oX10 (p0a 2) p0_1a p0_1k (o_11.2.1) (o_11.2.2))] : List va_W)) H := vP_perm (vP_fb hP) (bP (((List.Perm.refl _)).trans ((((((List.Perm.refl _)).cons _).trans (List.Perm.swap _ _ _))).cons _)))
      have hD : va_D A (List.flatten ([(oX7 (p0a 0) p0a p0k (o_11.1) p0l), (oX6 (p0a 3) p0_2a p0_2k w10 l8), (oX10 (p0a 2) p0_1a p0_1k (o_11.2.1) (o_11.2.2))] : List va_W)) := vD_perm (vD_fb hD) (bP (((List.Perm.refl _)).trans ((((((List.Perm.refl _)).cons _).trans (List.Perm.swap _ _ _))).cons _)))
      have hK : va_K (dC, dI) cls (List.flatten ([(tX7 p0k), (tX6 p0_2k), (tX10 p0_1k)] : List (List (ClassId × FieldType)))) s := vK_perm (vK_fb hK) (bP (((List.Perm.refl _)).trans ((((((List.Perm.refl _)).cons _).trans (List.Perm.swap _ _ _))).cons _)))
      refine lv_aload_n hx hb dX7_readFunction_98 rfl (lv_at hl 0 rfl) ?_
      refine va_get (D := (dC, dI)) (ci := 1) (v := .ref (p0a 3)) (C := RX7) (T := TX7) (N := 18) hx hb hts i_X7 hown hK hP 0 rfl rfl 2 (by decide) (hts _ qw26) (fun _ h9 => h9) rfl dX7_readFunction_99 ?_
      refine lv_iload_n hx hb dX7_readFunction_102 rfl (lv_at hl 1 rfl) ?_
      refine lv_iconst (v := 1) hx hb dX7_readFunction_103 (by decide) ?_
      refine lv_iadd hx hb dX7_readFunction_104 ?_
      refine va_put (D := (dC, dI)) (ci := 2) (v := .int (p1 + 1)) (ty := .int) (C := RX6) (T := TX6) (N := 13) hx hb hts i_X6 tyX6 tyX6_ok nmX6 hown hK hP hD hS 9 rfl rfl 0 (by decide) (hts _ qw50) (fun _ h9 => h9) rfl (by decide +kernel) rfl rfl (Nat.le_of_ble_eq_true rfl) dX7_readFunction_105 (fun H locs hP hD hS => ?_)
      have hP : va_P (dC, dI) cls (List.flatten ([(oX7 (p0a 0) p0a p0k (o_11.1) p0l), (oX6 (p0a 3) p0_2a p0_2k (upw w10 0 0 (p1 + 1)) l8), (oX10 (p0a 2) p0_1a p0_1k (o_11.2.1) (o_11.2.2))] : List va_W)) H := hP
      have hD : va_D A (List.flatten ([(oX7 (p0a 0) p0a p0k (o_11.1) p0l), (oX6 (p0a 3) p0_2a p0_2k (upw w10 0 0 (p1 + 1)) l8), (oX10 (p0a 2) p0_1a p0_1k (o_11.2.1) (o_11.2.2))] : List va_W)) := hD
      obtain ⟨w12, ew12, hrun⟩ := let9 hrun
      rw [← ew12] at hP hD
      refine lv_aload_n hx hb dX7_readFunction_108 rfl (lv_at hl 0 rfl) ?_
      refine va_get (D := (dC, dI)) (ci := 1) (v := .ref (p0a 3)) (C := RX7) (T := TX7) (N := 18) hx hb hts i_X7 hown hK hP 0 rfl rfl 2 (by decide) (hts _ qw26) (fun _ h9 => h9) rfl dX7_readFunction_109 ?_
      refine va_get (D := (dC, dI)) (ci := 2) (v := .ref (p0_2a 4)) (C := RX6) (T := TX6) (N := 13) hx hb hts i_X6 hown hK hP 9 rfl rfl 3 (by decide) (hts _ qw57) (fun _ h9 => h9) rfl dX7_readFunction_112 ?_
      refine lv_iload_n hx hb dX7_readFunction_115 rfl (lv_at hl 1 rfl) ?_
      refine lv_iconst (v := 0) hx hb dX7_readFunction_116 (by decide) ?_
      obtain ⟨hq13, hrun⟩ := chk9 hrun
      refine va_iast hx hb hK hP hD hS 12 10 rfl rfl (ixb_in hq13) dX7_readFunction_117 (fun H locs hP hD hS => ?_)
      have hP : va_P (dC, dI) cls (List.flatten ([(oX7 (p0a 0) p0a p0k (o_11.1) p0l), (oX6 (p0a 3) p0_2a p0_2k (upw w12 4 (nn p1) 0) l8), (oX10 (p0a 2) p0_1a p0_1k (o_11.2.1) (o_11.2.2))] : List va_W)) H := hP
      have hD : va_D A (List.flatten ([(oX7 (p0a 0) p0a p0k (o_11.1) p0l), (oX6 (p0a 3) p0_2a p0_2k (upw w12 4 (nn p1) 0) l8), (oX10 (p0a 2) p0_1a p0_1k (o_11.2.1) (o_11.2.2))] : List va_W)) := hD
      obtain ⟨w14, ew14, hrun⟩ := let9 hrun
      rw [← ew14] at hP hD
      refine lv_aload_n hx hb dX7_readFunction_118 rfl (lv_at hl 0 rfl) ?_
      refine va_get (D := (dC, dI)) (ci := 1) (v := .ref (p0a 3)) (C := RX7) (T := TX7) (N := 18) hx hb hts i_X7 hown hK hP 0 rfl rfl 2 (by decide) (hts _ qw26) (fun _ h9 => h9) rfl dX7_readFunction_119 ?_
      refine va_get (D := (dC, dI)) (ci := 2) (v := .ref (p0_2a 5)) (C := RX6) (T := TX6) (N := 13) hx hb hts i_X6 hown hK hP 9 rfl rfl 4 (by decide) (hts _ qw1467) (fun _ h9 => h9) rfl dX7_readFunction_122 ?_
      refine lv_iload_n hx hb dX7_readFunction_125 rfl (lv_at hl 1 rfl) ?_
      refine lv_iconst (v := 0) hx hb dX7_readFunction_126 (by decide) ?_
      obtain ⟨hq15, hrun⟩ := chk9 hrun
      refine va_iast hx hb hK hP hD hS 13 11 rfl rfl (ixb_in hq15) dX7_readFunction_127 (fun H locs hP hD hS => ?_)
      have hP : va_P (dC, dI) cls (List.flatten ([(oX7 (p0a 0) p0a p0k (o_11.1) p0l), (oX6 (p0a 3) p0_2a p0_2k (upw w14 5 (nn p1) 0) l8), (oX10 (p0a 2) p0_1a p0_1k (o_11.2.1) (o_11.2.2))] : List va_W)) H := hP
      have hD : va_D A (List.flatten ([(oX7 (p0a 0) p0a p0k (o_11.1) p0l), (oX6 (p0a 3) p0_2a p0_2k (upw w14 5 (nn p1) 0) l8), (oX10 (p0a 2) p0_1a p0_1k (o_11.2.1) (o_11.2.2))] : List va_W)) := hD
      obtain ⟨w16, ew16, hrun⟩ := let9 hrun
      rw [← ew16] at hP hD
      refine lv_aload_n hx hb dX7_readFunction_128 rfl (lv_at hl 0 rfl) ?_
      refine va_get (D := (dC, dI)) (ci := 1) (v := .ref (p0a 3)) (C := RX7) (T := TX7) (N := 18) hx hb hts i_X7 hown hK hP 0 rfl rfl 2 (by decide) (hts _ qw26) (fun _ h9 => h9) rfl dX7_readFunction_129 ?_
      refine va_get (D := (dC, dI)) (ci := 2) (v := .ref (p0_2a 6)) (C := RX6) (T := TX6) (N := 13) hx hb hts i_X6 hown hK hP 9 rfl rfl 5 (by decide) (hts _ qw1468) (fun _ h9 => h9) rfl dX7_readFunction_132 ?_
      refine lv_iload_n hx hb dX7_readFunction_135 rfl (lv_at hl 1 rfl) ?_
      refine lv_aload_n hx hb dX7_readFunction_136 rfl (lv_at hl 0 rfl) ?_
      refine va_get (D := (dC, dI)) (ci := 1) (v := .ref (p0a 3)) (C := RX7) (T := TX7) (N := 18) hx hb hts i_X7 hown hK hP 0 rfl rfl 2 (by decide) (hts _ qw26) (fun _ h9 => h9) rfl dX7_readFunction_137 ?_
      refine va_get (D := (dC, dI)) (ci := 2) (v := .int (w16 0 7)) (C := RX6) (T := TX6) (N := 13) hx hb hts i_X6 hown hK hP 9 rfl rfl 7 (by decide) (hts _ qw66) (fun _ h9 => h9) rfl dX7_readFunction_140 ?_
      obtain ⟨hq17, hrun⟩ := chk9 hrun
      refine va_iast hx hb hK hP hD hS 14 12 rfl rfl (ixb_in hq17) dX7_readFunction_143 (fun H locs hP hD hS => ?_)
      have hP : va_P (dC, dI) cls (List.flatten ([(oX7 (p0a 0) p0a p0k (o_11.1) p0l), (oX6 (p0a 3) p0_2a p0_2k (upw w16 6 (nn p1) (w16 0 7)) l8), (oX10 (p0a 2) p0_1a p0_1k (o_11.2.1) (o_11.2.2))] : List va_W)) H := hP
      have hD : va_D A (List.flatten ([(oX7 (p0a 0) p0a p0k (o_11.1) p0l), (oX6 (p0a 3) p0_2a p0_2k (upw w16 6 (nn p1) (w16 0 7)) l8), (oX10 (p0a 2) p0_1a p0_1k (o_11.2.1) (o_11.2.2))] : List va_W)) := hD
      obtain ⟨w18, ew18, hrun⟩ := let9 hrun
      rw [← ew18] at hP hD
      refine lv_aload_n hx hb dX7_readFunction_144 rfl (lv_at hl 0 rfl) ?_
      refine lv_bipush (v := 40) hx hb dX7_readFunction_145 (by decide) ?_
      obtain ⟨o_19, hc_19, hrun⟩ := bnd9 hrun
      have hPx : va_P (dC, dI) cls ((List.flatten ([(oX7 (p0a 0) p0a p0k (o_11.1) p0l), (oX10 (p0a 2) p0_1a p0_1k (o_11.2.1) (o_11.2.2))] : List va_W)) ++ (List.flatten ([(oX6 (p0a 3) p0_2a p0_2k w18 l8)] : List va_W))) H := vP_fa (vP_perm hP (bP (((List.Perm.refl _)).trans ((((((List.Perm.refl _)).cons _).trans (List.Perm.swap _ _ _))).cons _))))
      have hDx : va_D A ((List.flatten ([(oX7 (p0a 0) p0a p0k (o_11.1) p0l), (oX10 (p0a 2) p0_1a p0_1k (o_11.2.1) (o_11.2.2))] : List va_W)) ++ (List.flatten ([(oX6 (p0a 3) p0_2a p0_2k w18 l8)] : List va_W))) := vD_fa (vD_perm hD (bP (((List.Perm.refl _)).trans ((((((List.Perm.refl _)).cons _).trans (List.Perm.swap _ _ _))).cons _))))
      have hKx : va_K (dC, dI) cls ((List.flatten ([(tX7 p0k), (tX10 p0_1k)] : List (List (ClassId × FieldType)))) ++ (List.flatten ([(tX6 p0_2k)] : List (List (ClassId × FieldType))))) s := vK_fa (vK_perm hK (bP (((List.Perm.refl _)).trans ((((((List.Perm.refl _)).cons _).trans (List.Perm.swap _ _ _))).cons _))))
      have hPc := vP_l hPx
      have hDc := vD_l hDx
      have hKc := vK_l hKx
      have hFc := vfree hDx hS hA
      refine va_callv (va_runV (As := [.int 40]) (rest := []) ⟨hx, hb, hml, hown, hts⟩ (kX7_expect l dC dI (p0a := p0a) (p0k := p0k) (p0w := (o_11.1)) (p0l := p0l) (p1 := 40) (aK := aK) (aV := aV) (p0_1a := p0_1a) (p0_1k := p0_1k) (p0_1w := (o_11.2.1)) (p0_1l := (o_11.2.2)) (sz := _) (o := o_19) (hrun := hc_19)) (cwV 1 hts (gi_V qw1386 qw1387 qw1388 qw65 (gi_z qw1385)) rfl rfl rfl (by decide +kernel) ⟨rmF (Nat.le_of_ble_eq_true rfl), rmL (Nat.le_of_ble_eq_true rfl)⟩) ⟨PRE.blind, va_recv hKc hPc (ci := 1) (q0 := 0) rfl rfl, PRE.of (ENV.add hE st9_m hro_st) hS hFc hPc hKc hDc⟩ rfl rfl hl.1 rfl (lv_room (Nat.le_of_ble_eq_true rfl)) dX7_readFunction_147 ⟨(Nat.le_of_ble_eq_true rfl), (Nat.le_of_ble_eq_true rfl)⟩) hS (fun q _ h => hFc q h) hFc (fun u t H locs ht hvm hw hB hz1 hk1 hS => ?_)
      obtain ⟨b1, b2, b3⟩ := hB
      rw [ht] at b1
      obtain ⟨hP, hD, hK⟩ := JOINC (wc := (List.flatten ([(oX7 (p0a 0) p0a p0k (o_11.1) p0l), (oX10 (p0a 2) p0_1a p0_1k (o_11.2.1) (o_11.2.2))] : List va_W))) (wr := (List.flatten ([(oX6 (p0a 3) p0_2a p0_2k w18 l8)] : List va_W))) (w1 := (List.flatten ([(oX7 (p0a 0) p0a p0k (o_19.1) p0l), (oX10 (p0a 2) p0_1a p0_1k (o_19.2.1) (o_19.2.2))] : List va_W))) (t1 := (List.flatten ([(tX7 p0k), (tX10 p0_1k)] : List (List (ClassId × FieldType))))) hPx hDx hKx hk1 hFc b1 (va_K.moved hvm.symm b2) b3
      have hP : va_P (dC, dI) cls (List.flatten ([(oX7 (p0a 0) p0a p0k (o_19.1) p0l), (oX6 (p0a 3) p0_2a p0_2k w18 l8), (oX10 (p0a 2) p0_1a p0_1k (o_19.2.1) (o_19.2.2))] : List va_W)) H := vP_perm (vP_fb hP) (bP (((List.Perm.refl _)).trans ((((((List.Perm.refl _)).cons _).trans (List.Perm.swap _ _ _))).cons _)))
      have hD : va_D A (List.flatten ([(oX7 (p0a 0) p0a p0k (o_19.1) p0l), (oX6 (p0a 3) p0_2a p0_2k w18 l8), (oX10 (p0a 2) p0_1a p0_1k (o_19.2.1) (o_19.2.2))] : List va_W)) := vD_perm (vD_fb hD) (bP (((List.Perm.refl _)).trans ((((((List.Perm.refl _)).cons _).trans (List.Perm.swap _ _ _))).cons _)))
      have hK : va_K (dC, dI) cls (List.flatten ([(tX7 p0k), (tX6 p0_2k), (tX10 p0_1k)] : List (List (ClassId × FieldType)))) s := vK_perm (vK_fb hK) (bP (((List.Perm.refl _)).trans ((((((List.Perm.refl _)).cons _).trans (List.Perm.swap _ _ _))).cons _)))
      refine lv_aload_n hx hb dX7_readFunction_150 rfl (lv_at hl 0 rfl) ?_
      obtain ⟨o_20, hc_20, hrun⟩ := bnd9 hrun
      have hPx : va_P (dC, dI) cls ((List.flatten ([(oX7 (p0a 0) p0a p0k (o_19.1) p0l), (oX10 (p0a 2) p0_1a p0_1k (o_19.2.1) (o_19.2.2)), (oX6 (p0a 3) p0_2a p0_2k w18 l8)] : List va_W)) ++ (List.flatten ([] : List va_W))) H := vP_fa (vP_perm hP (bP (((List.Perm.refl _)).trans ((((((List.Perm.refl _)).cons _).trans (List.Perm.swap _ _ _))).cons _))))
      have hDx : va_D A ((List.flatten ([(oX7 (p0a 0) p0a p0k (o_19.1) p0l), (oX10 (p0a 2) p0_1a p0_1k (o_19.2.1) (o_19.2.2)), (oX6 (p0a 3) p0_2a p0_2k w18 l8)] : List va_W)) ++ (List.flatten ([] : List va_W))) := vD_fa (vD_perm hD (bP (((List.Perm.refl _)).trans ((((((List.Perm.refl _)).cons _).trans (List.Perm.swap _ _ _))).cons _))))
      have hKx : va_K (dC, dI) cls ((List.flatten ([(tX7 p0k), (tX10 p0_1k), (tX6 p0_2k)] : List (List (ClassId × FieldType)))) ++ (List.flatten ([] : List (List (ClassId × FieldType))))) s := vK_fa (vK_perm hK (bP (((List.Perm.refl _)).trans ((((((List.Perm.refl _)).cons _).trans (List.Perm.swap _ _ _))).cons _))))
      have hPc := vP_l hPx
      have hDc := vD_l hDx
      have hKc := vK_l hKx
      have hFc := vfree hDx hS hA
      refine va_callv (va_runV (As := []) (rest := []) ⟨hx, hb, hml, hown, hts⟩ (kX7_readParameters l dC dI (p0a := p0a) (p0k := p0k) (p0w := (o_19.1)) (p0l := p0l) (aK := aK) (aV := aV) (p0_1a := p0_1a) (p0_1k := p0_1k) (p0_1w := (o_19.2.1)) (p0_1l := (o_19.2.2)) (p0_2a := p0_2a) (p0_2k := p0_2k) (p0_2w := w18) (p0_2l := l8) (sz := _) (o := o_20) (hrun := hc_20)) (cwV 0 hts (gi_V qw1470 qw1471 qw1472 qw65 (gi_z qw1469)) rfl rfl rfl (by decide +kernel) ⟨rmF (Nat.le_of_ble_eq_true rfl), rmL (Nat.le_of_ble_eq_true rfl)⟩) ⟨PRE.blind, va_recv hKc hPc (ci := 1) (q0 := 0) rfl rfl, PRE.of (ENV.add hE st9_m hro_st) hS hFc hPc hKc hDc⟩ rfl rfl hl.1 rfl (lv_room (Nat.le_of_ble_eq_true rfl)) dX7_readFunction_151 ⟨(Nat.le_of_ble_eq_true rfl), (Nat.le_of_ble_eq_true rfl)⟩) hS (fun q _ h => hFc q h) hFc (fun u t H locs ht hvm hw hB hz1 hk1 hS => ?_)
      obtain ⟨b1, b2, b3⟩ := hB
      rw [ht] at b1
      obtain ⟨hP, hD, hK⟩ := JOINC (wc := (List.flatten ([(oX7 (p0a 0) p0a p0k (o_19.1) p0l), (oX10 (p0a 2) p0_1a p0_1k (o_19.2.1) (o_19.2.2)), (oX6 (p0a 3) p0_2a p0_2k w18 l8)] : List va_W))) (wr := (List.flatten ([] : List va_W))) (w1 := (List.flatten ([(oX7 (p0a 0) p0a p0k (o_20.1) (o_20.2.1)), (oX10 (p0a 2) p0_1a p0_1k (o_20.2.2.1) (o_20.2.2.2.1)), (oX6 (p0a 3) p0_2a p0_2k (o_20.2.2.2.2) l8)] : List va_W))) (t1 := (List.flatten ([(tX7 p0k), (tX10 p0_1k), (tX6 p0_2k)] : List (List (ClassId × FieldType))))) hPx hDx hKx hk1 hFc b1 (va_K.moved hvm.symm b2) b3
      have hP : va_P (dC, dI) cls (List.flatten ([(oX7 (p0a 0) p0a p0k (o_20.1) (o_20.2.1)), (oX6 (p0a 3) p0_2a p0_2k (o_20.2.2.2.2) l8), (oX10 (p0a 2) p0_1a p0_1k (o_20.2.2.1) (o_20.2.2.2.1))] : List va_W)) H := vP_perm (vP_fb hP) (bP (((List.Perm.refl _)).trans ((((((List.Perm.refl _)).cons _).trans (List.Perm.swap _ _ _))).cons _)))
      have hD : va_D A (List.flatten ([(oX7 (p0a 0) p0a p0k (o_20.1) (o_20.2.1)), (oX6 (p0a 3) p0_2a p0_2k (o_20.2.2.2.2) l8), (oX10 (p0a 2) p0_1a p0_1k (o_20.2.2.1) (o_20.2.2.2.1))] : List va_W)) := vD_perm (vD_fb hD) (bP (((List.Perm.refl _)).trans ((((((List.Perm.refl _)).cons _).trans (List.Perm.swap _ _ _))).cons _)))
      have hK : va_K (dC, dI) cls (List.flatten ([(tX7 p0k), (tX6 p0_2k), (tX10 p0_1k)] : List (List (ClassId × FieldType)))) s := vK_perm (vK_fb hK) (bP (((List.Perm.refl _)).trans ((((((List.Perm.refl _)).cons _).trans (List.Perm.swap _ _ _))).cons _)))
      refine lv_aload_n hx hb dX7_readFunction_154 rfl (lv_at hl 0 rfl) ?_
      refine lv_bipush (v := 41) hx hb dX7_readFunction_155 (by decide) ?_
      obtain ⟨o_21, hc_21, hrun⟩ := bnd9 hrun
      have hPx : va_P (dC, dI) cls ((List.flatten ([(oX7 (p0a 0) p0a p0k (o_20.1) (o_20.2.1)), (oX10 (p0a 2) p0_1a p0_1k (o_20.2.2.1) (o_20.2.2.2.1))] : List va_W)) ++ (List.flatten ([(oX6 (p0a 3) p0_2a p0_2k (o_20.2.2.2.2) l8)] : List va_W))) H := vP_fa (vP_perm hP (bP (((List.Perm.refl _)).trans ((((((List.Perm.refl _)).cons _).trans (List.Perm.swap _ _ _))).cons _))))
      have hDx : va_D A ((List.flatten ([(oX7 (p0a 0) p0a p0k (o_20.1) (o_20.2.1)), (oX10 (p0a 2) p0_1a p0_1k (o_20.2.2.1) (o_20.2.2.2.1))] : List va_W)) ++ (List.flatten ([(oX6 (p0a 3) p0_2a p0_2k (o_20.2.2.2.2) l8)] : List va_W))) := vD_fa (vD_perm hD (bP (((List.Perm.refl _)).trans ((((((List.Perm.refl _)).cons _).trans (List.Perm.swap _ _ _))).cons _))))
      have hKx : va_K (dC, dI) cls ((List.flatten ([(tX7 p0k), (tX10 p0_1k)] : List (List (ClassId × FieldType)))) ++ (List.flatten ([(tX6 p0_2k)] : List (List (ClassId × FieldType))))) s := vK_fa (vK_perm hK (bP (((List.Perm.refl _)).trans ((((((List.Perm.refl _)).cons _).trans (List.Perm.swap _ _ _))).cons _))))
      have hPc := vP_l hPx
      have hDc := vD_l hDx
      have hKc := vK_l hKx
      have hFc := vfree hDx hS hA
      refine va_callv (va_runV (As := [.int 41]) (rest := []) ⟨hx, hb, hml, hown, hts⟩ (kX7_expect l dC dI (p0a := p0a) (p0k := p0k) (p0w := (o_20.1)) (p0l := (o_20.2.1)) (p1 := 41) (aK := aK) (aV := aV) (p0_1a := p0_1a) (p0_1k := p0_1k) (p0_1w := (o_20.2.2.1)) (p0_1l := (o_20.2.2.2.1)) (sz := _) (o := o_21) (hrun := hc_21)) (cwV 1 hts (gi_V qw1386 qw1387 qw1388 qw65 (gi_z qw1385)) rfl rfl rfl (by decide +kernel) ⟨rmF (Nat.le_of_ble_eq_true rfl), rmL (Nat.le_of_ble_eq_true rfl)⟩) ⟨PRE.blind, va_recv hKc hPc (ci := 1) (q0 := 0) rfl rfl, PRE.of (ENV.add hE st9_m hro_st) hS hFc hPc hKc hDc⟩ rfl rfl hl.1 rfl (lv_room (Nat.le_of_ble_eq_true rfl)) dX7_readFunction_157 ⟨(Nat.le_of_ble_eq_true rfl), (Nat.le_of_ble_eq_true rfl)⟩) hS (fun q _ h => hFc q h) hFc (fun u t H locs ht hvm hw hB hz1 hk1 hS => ?_)
      obtain ⟨b1, b2, b3⟩ := hB
      rw [ht] at b1
      obtain ⟨hP, hD, hK⟩ := JOINC (wc := (List.flatten ([(oX7 (p0a 0) p0a p0k (o_20.1) (o_20.2.1)), (oX10 (p0a 2) p0_1a p0_1k (o_20.2.2.1) (o_20.2.2.2.1))] : List va_W))) (wr := (List.flatten ([(oX6 (p0a 3) p0_2a p0_2k (o_20.2.2.2.2) l8)] : List va_W))) (w1 := (List.flatten ([(oX7 (p0a 0) p0a p0k (o_21.1) (o_20.2.1)), (oX10 (p0a 2) p0_1a p0_1k (o_21.2.1) (o_21.2.2))] : List va_W))) (t1 := (List.flatten ([(tX7 p0k), (tX10 p0_1k)] : List (List (ClassId × FieldType))))) hPx hDx hKx hk1 hFc b1 (va_K.moved hvm.symm b2) b3
      have hP : va_P (dC, dI) cls (List.flatten ([(oX7 (p0a 0) p0a p0k (o_21.1) (o_20.2.1)), (oX6 (p0a 3) p0_2a p0_2k (o_20.2.2.2.2) l8), (oX10 (p0a 2) p0_1a p0_1k (o_21.2.1) (o_21.2.2))] : List va_W)) H := vP_perm (vP_fb hP) (bP (((List.Perm.refl _)).trans ((((((List.Perm.refl _)).cons _).trans (List.Perm.swap _ _ _))).cons _)))
      have hD : va_D A (List.flatten ([(oX7 (p0a 0) p0a p0k (o_21.1) (o_20.2.1)), (oX6 (p0a 3) p0_2a p0_2k (o_20.2.2.2.2) l8), (oX10 (p0a 2) p0_1a p0_1k (o_21.2.1) (o_21.2.2))] : List va_W)) := vD_perm (vD_fb hD) (bP (((List.Perm.refl _)).trans ((((((List.Perm.refl _)).cons _).trans (List.Perm.swap _ _ _))).cons _)))
      have hK : va_K (dC, dI) cls (List.flatten ([(tX7 p0k), (tX6 p0_2k), (tX10 p0_1k)] : List (List (ClassId × FieldType)))) s := vK_perm (vK_fb hK) (bP (((List.Perm.refl _)).trans ((((((List.Perm.refl _)).cons _).trans (List.Perm.swap _ _ _))).cons _)))
      refine lv_aload_n hx hb dX7_readFunction_160 rfl (lv_at hl 0 rfl) ?_
      obtain ⟨o_22, hc_22, hrun⟩ := bnd9 hrun
      have hPx : va_P (dC, dI) cls ((List.flatten ([(oX7 (p0a 0) p0a p0k (o_21.1) (o_20.2.1)), (oX6 (p0a 3) p0_2a p0_2k (o_20.2.2.2.2) l8), (oX10 (p0a 2) p0_1a p0_1k (o_21.2.1) (o_21.2.2))] : List va_W)) ++ (List.flatten ([] : List va_W))) H := vP_fa (vP_perm hP (bP (List.Perm.refl _)))
      have hDx : va_D A ((List.flatten ([(oX7 (p0a 0) p0a p0k (o_21.1) (o_20.2.1)), (oX6 (p0a 3) p0_2a p0_2k (o_20.2.2.2.2) l8), (oX10 (p0a 2) p0_1a p0_1k (o_21.2.1) (o_21.2.2))] : List va_W)) ++ (List.flatten ([] : List va_W))) := vD_fa (vD_perm hD (bP (List.Perm.refl _)))
      have hKx : va_K (dC, dI) cls ((List.flatten ([(tX7 p0k), (tX6 p0_2k), (tX10 p0_1k)] : List (List (ClassId × FieldType)))) ++ (List.flatten ([] : List (List (ClassId × FieldType))))) s := vK_fa (vK_perm hK (bP (List.Perm.refl _)))
      have hPc := vP_l hPx
      have hDc := vD_l hDx
      have hKc := vK_l hKx
      have hFc := vfree hDx hS hA
      refine va_callv (va_runV (As := []) (rest := []) ⟨hx, hb, hml, hown, hts⟩ (hkk_readBlock dC dI (p0a := p0a) (p0k := p0k) (p0w := (o_21.1)) (p0l := (o_20.2.1)) (aK := aK) (aV := aV) (p0_2a := p0_2a) (p0_2k := p0_2k) (p0_2w := (o_20.2.2.2.2)) (p0_2l := l8) (p0_1a := p0_1a) (p0_1k := p0_1k) (p0_1w := (o_21.2.1)) (p0_1l := (o_21.2.2)) (sz := _) (o := o_22) (hrun := hc_22)) (cwV 0 hts (gi_V qw1430 qw1431 qw1432 qw65 (gi_z qw1429)) rfl rfl rfl (by decide +kernel) ⟨rmF9, rmL9 (n := 22) (Nat.le_of_ble_eq_true rfl)⟩) ⟨PRE.blind, va_recv hKc hPc (ci := 1) (q0 := 0) rfl rfl, PRE.of (ENV.add hE st9_m hro_st) hS hFc hPc hKc hDc⟩ rfl rfl hl.1 rfl (lv_room (Nat.le_of_ble_eq_true rfl)) dX7_readFunction_161 ⟨(Nat.le_of_ble_eq_true rfl), (Nat.le_of_ble_eq_true rfl)⟩) hS (fun q _ h => hFc q h) hFc (fun u t H locs ht hvm hw hB hz1 hk1 hS => ?_)
      obtain ⟨b1, b2, b3⟩ := hB
      rw [ht] at b1
      obtain ⟨hP, hD, hK⟩ := JOINC (wc := (List.flatten ([(oX7 (p0a 0) p0a p0k (o_21.1) (o_20.2.1)), (oX6 (p0a 3) p0_2a p0_2k (o_20.2.2.2.2) l8), (oX10 (p0a 2) p0_1a p0_1k (o_21.2.1) (o_21.2.2))] : List va_W))) (wr := (List.flatten ([] : List va_W))) (w1 := (List.flatten ([(oX7 (p0a 0) p0a p0k (o_22.1) (o_22.2.1)), (oX6 (p0a 3) p0_2a p0_2k (o_22.2.2.1) l8), (oX10 (p0a 2) p0_1a p0_1k (o_22.2.2.2.1) (o_22.2.2.2.2))] : List va_W))) (t1 := (List.flatten ([(tX7 p0k), (tX6 p0_2k), (tX10 p0_1k)] : List (List (ClassId × FieldType))))) hPx hDx hKx hk1 hFc b1 (va_K.moved hvm.symm b2) b3
      have hP : va_P (dC, dI) cls (List.flatten ([(oX7 (p0a 0) p0a p0k (o_22.1) (o_22.2.1)), (oX6 (p0a 3) p0_2a p0_2k (o_22.2.2.1) l8), (oX10 (p0a 2) p0_1a p0_1k (o_22.2.2.2.1) (o_22.2.2.2.2))] : List va_W)) H := vP_perm (vP_fb hP) (bP (List.Perm.refl _))
      have hD : va_D A (List.flatten ([(oX7 (p0a 0) p0a p0k (o_22.1) (o_22.2.1)), (oX6 (p0a 3) p0_2a p0_2k (o_22.2.2.1) l8), (oX10 (p0a 2) p0_1a p0_1k (o_22.2.2.2.1) (o_22.2.2.2.2))] : List va_W)) := vD_perm (vD_fb hD) (bP (List.Perm.refl _))
      have hK : va_K (dC, dI) cls (List.flatten ([(tX7 p0k), (tX6 p0_2k), (tX10 p0_1k)] : List (List (ClassId × FieldType)))) s := vK_perm (vK_fb hK) (bP (List.Perm.refl _))
      refine lv_aload_n hx hb dX7_readFunction_164 rfl (lv_at hl 0 rfl) ?_
      refine va_get (D := (dC, dI)) (ci := 1) (v := .ref (p0a 3)) (C := RX7) (T := TX7) (N := 18) hx hb hts i_X7 hown hK hP 0 rfl rfl 2 (by decide) (hts _ qw26) (fun _ h9 => h9) rfl dX7_readFunction_165 ?_
      refine lv_iconst (v := 0) hx hb dX7_readFunction_168 (by decide) ?_
      refine lv_iconst (v := 0) hx hb dX7_readFunction_169 (by decide) ?_
      refine lv_iconst (v := 0) hx hb dX7_readFunction_170 (by decide) ?_
      obtain ⟨o_23, hc_23, hrun⟩ := bnd9 hrun
      have hPx : va_P (dC, dI) cls ((List.flatten ([(oX6 (p0a 3) p0_2a p0_2k (o_22.2.2.1) l8)] : List va_W)) ++ (List.flatten ([(oX7 (p0a 0) p0a p0k (o_22.1) (o_22.2.1)), (oX10 (p0a 2) p0_1a p0_1k (o_22.2.2.2.1) (o_22.2.2.2.2))] : List va_W))) H := vP_fa (vP_perm hP (bP ((((List.Perm.refl _)).cons _).trans (List.Perm.swap _ _ _))))
      have hDx : va_D A ((List.flatten ([(oX6 (p0a 3) p0_2a p0_2k (o_22.2.2.1) l8)] : List va_W)) ++ (List.flatten ([(oX7 (p0a 0) p0a p0k (o_22.1) (o_22.2.1)), (oX10 (p0a 2) p0_1a p0_1k (o_22.2.2.2.1) (o_22.2.2.2.2))] : List va_W))) := vD_fa (vD_perm hD (bP ((((List.Perm.refl _)).cons _).trans (List.Perm.swap _ _ _))))
      have hKx : va_K (dC, dI) cls ((List.flatten ([(tX6 p0_2k)] : List (List (ClassId × FieldType)))) ++ (List.flatten ([(tX7 p0k), (tX10 p0_1k)] : List (List (ClassId × FieldType))))) s := vK_fa (vK_perm hK (bP ((((List.Perm.refl _)).cons _).trans (List.Perm.swap _ _ _))))
      have hPc := vP_l hPx
      have hDc := vD_l hDx
      have hKc := vK_l hKx
      have hFc := vfree hDx hS hA
      refine va_callv (va_runV (As := [.int 0, .int 0, .int 0]) (rest := []) ⟨hx, hb, hml, hown, hts⟩ (kX6_emit l dC dI (p0a := (st0 (p0a 3) p0_2a)) (p0k := p0_2k) (p0w := (o_22.2.2.1)) (p0l := l8) (p1 := 0) (p2 := 0) (p3 := 0) (sz := _) (o := o_23) (hrun := hc_23)) (cwV 3 hts (gi_V qw42 qw43 qw44 qw33 (gi_z qw41)) rfl rfl rfl (by decide +kernel) ⟨rmF (Nat.le_of_ble_eq_true rfl), rmL (Nat.le_of_ble_eq_true rfl)⟩) ⟨PRE.blind, va_recv hKc hPc (ci := 2) (q0 := 0) rfl rfl, PRE.of hE hS hFc hPc hKc hDc⟩ rfl rfl hl.1 rfl (lv_room (Nat.le_of_ble_eq_true rfl)) dX7_readFunction_171 ⟨(Nat.le_of_ble_eq_true rfl), (Nat.le_of_ble_eq_true rfl)⟩) hS (fun q _ h => hFc q h) hFc (fun u t H locs ht hvm hw hB hz1 hk1 hS => ?_)
      obtain ⟨b1, b2, b3⟩ := hB
      rw [ht] at b1
      obtain ⟨hP, hD, hK⟩ := JOINC (wc := (List.flatten ([(oX6 (p0a 3) p0_2a p0_2k (o_22.2.2.1) l8)] : List va_W))) (wr := (List.flatten ([(oX7 (p0a 0) p0a p0k (o_22.1) (o_22.2.1)), (oX10 (p0a 2) p0_1a p0_1k (o_22.2.2.2.1) (o_22.2.2.2.2))] : List va_W))) (w1 := (List.flatten ([(oX6 (p0a 3) p0_2a p0_2k o_23 l8)] : List va_W))) (t1 := (List.flatten ([(tX6 p0_2k)] : List (List (ClassId × FieldType))))) hPx hDx hKx hk1 hFc b1 (va_K.moved hvm.symm b2) b3
      have hP : va_P (dC, dI) cls (List.flatten ([(oX7 (p0a 0) p0a p0k (o_22.1) (o_22.2.1)), (oX6 (p0a 3) p0_2a p0_2k o_23 l8), (oX10 (p0a 2) p0_1a p0_1k (o_22.2.2.2.1) (o_22.2.2.2.2))] : List va_W)) H := vP_perm (vP_fb hP) (bP ((((List.Perm.refl _)).cons _).trans (List.Perm.swap _ _ _)))
      have hD : va_D A (List.flatten ([(oX7 (p0a 0) p0a p0k (o_22.1) (o_22.2.1)), (oX6 (p0a 3) p0_2a p0_2k o_23 l8), (oX10 (p0a 2) p0_1a p0_1k (o_22.2.2.2.1) (o_22.2.2.2.2))] : List va_W)) := vD_perm (vD_fb hD) (bP ((((List.Perm.refl _)).cons _).trans (List.Perm.swap _ _ _)))
      have hK : va_K (dC, dI) cls (List.flatten ([(tX7 p0k), (tX6 p0_2k), (tX10 p0_1k)] : List (List (ClassId × FieldType)))) s := vK_perm (vK_fb hK) (bP ((((List.Perm.refl _)).cons _).trans (List.Perm.swap _ _ _)))
      refine lv_aload_n hx hb dX7_readFunction_174 rfl (lv_at hl 0 rfl) ?_
      refine va_get (D := (dC, dI)) (ci := 1) (v := .ref (p0a 3)) (C := RX7) (T := TX7) (N := 18) hx hb hts i_X7 hown hK hP 0 rfl rfl 2 (by decide) (hts _ qw26) (fun _ h9 => h9) rfl dX7_readFunction_175 ?_
      refine lv_bipush (v := 24) hx hb dX7_readFunction_178 (by decide) ?_
      refine lv_iconst (v := 0) hx hb dX7_readFunction_180 (by decide) ?_
      refine lv_iconst (v := 0) hx hb dX7_readFunction_181 (by decide) ?_
      obtain ⟨o_24, hc_24, hrun⟩ := bnd9 hrun
      have hPx : va_P (dC, dI) cls ((List.flatten ([(oX6 (p0a 3) p0_2a p0_2k o_23 l8)] : List va_W)) ++ (List.flatten ([(oX7 (p0a 0) p0a p0k (o_22.1) (o_22.2.1)), (oX10 (p0a 2) p0_1a p0_1k (o_22.2.2.2.1) (o_22.2.2.2.2))] : List va_W))) H := vP_fa (vP_perm hP (bP ((((List.Perm.refl _)).cons _).trans (List.Perm.swap _ _ _))))
      have hDx : va_D A ((List.flatten ([(oX6 (p0a 3) p0_2a p0_2k o_23 l8)] : List va_W)) ++ (List.flatten ([(oX7 (p0a 0) p0a p0k (o_22.1) (o_22.2.1)), (oX10 (p0a 2) p0_1a p0_1k (o_22.2.2.2.1) (o_22.2.2.2.2))] : List va_W))) := vD_fa (vD_perm hD (bP ((((List.Perm.refl _)).cons _).trans (List.Perm.swap _ _ _))))
      have hKx : va_K (dC, dI) cls ((List.flatten ([(tX6 p0_2k)] : List (List (ClassId × FieldType)))) ++ (List.flatten ([(tX7 p0k), (tX10 p0_1k)] : List (List (ClassId × FieldType))))) s := vK_fa (vK_perm hK (bP ((((List.Perm.refl _)).cons _).trans (List.Perm.swap _ _ _))))
      have hPc := vP_l hPx
      have hDc := vD_l hDx
      have hKc := vK_l hKx
      have hFc := vfree hDx hS hA
      refine va_callv (va_runV (As := [.int 24, .int 0, .int 0]) (rest := []) ⟨hx, hb, hml, hown, hts⟩ (kX6_emit l dC dI (p0a := (st0 (p0a 3) p0_2a)) (p0k := p0_2k) (p0w := o_23) (p0l := l8) (p1 := 24) (p2 := 0) (p3 := 0) (sz := _) (o := o_24) (hrun := hc_24)) (cwV 3 hts (gi_V qw42 qw43 qw44 qw33 (gi_z qw41)) rfl rfl rfl (by decide +kernel) ⟨rmF (Nat.le_of_ble_eq_true rfl), rmL (Nat.le_of_ble_eq_true rfl)⟩) ⟨PRE.blind, va_recv hKc hPc (ci := 2) (q0 := 0) rfl rfl, PRE.of hE hS hFc hPc hKc hDc⟩ rfl rfl hl.1 rfl (lv_room (Nat.le_of_ble_eq_true rfl)) dX7_readFunction_182 ⟨(Nat.le_of_ble_eq_true rfl), (Nat.le_of_ble_eq_true rfl)⟩) hS (fun q _ h => hFc q h) hFc (fun u t H locs ht hvm hw hB hz1 hk1 hS => ?_)
      obtain ⟨b1, b2, b3⟩ := hB
      rw [ht] at b1
      obtain ⟨hP, hD, hK⟩ := JOINC (wc := (List.flatten ([(oX6 (p0a 3) p0_2a p0_2k o_23 l8)] : List va_W))) (wr := (List.flatten ([(oX7 (p0a 0) p0a p0k (o_22.1) (o_22.2.1)), (oX10 (p0a 2) p0_1a p0_1k (o_22.2.2.2.1) (o_22.2.2.2.2))] : List va_W))) (w1 := (List.flatten ([(oX6 (p0a 3) p0_2a p0_2k o_24 l8)] : List va_W))) (t1 := (List.flatten ([(tX6 p0_2k)] : List (List (ClassId × FieldType))))) hPx hDx hKx hk1 hFc b1 (va_K.moved hvm.symm b2) b3
      have hP : va_P (dC, dI) cls (List.flatten ([(oX7 (p0a 0) p0a p0k (o_22.1) (o_22.2.1)), (oX6 (p0a 3) p0_2a p0_2k o_24 l8), (oX10 (p0a 2) p0_1a p0_1k (o_22.2.2.2.1) (o_22.2.2.2.2))] : List va_W)) H := vP_perm (vP_fb hP) (bP ((((List.Perm.refl _)).cons _).trans (List.Perm.swap _ _ _)))
      have hD : va_D A (List.flatten ([(oX7 (p0a 0) p0a p0k (o_22.1) (o_22.2.1)), (oX6 (p0a 3) p0_2a p0_2k o_24 l8), (oX10 (p0a 2) p0_1a p0_1k (o_22.2.2.2.1) (o_22.2.2.2.2))] : List va_W)) := vD_perm (vD_fb hD) (bP ((((List.Perm.refl _)).cons _).trans (List.Perm.swap _ _ _)))
      have hK : va_K (dC, dI) cls (List.flatten ([(tX7 p0k), (tX6 p0_2k), (tX10 p0_1k)] : List (List (ClassId × FieldType)))) s := vK_perm (vK_fb hK) (bP ((((List.Perm.refl _)).cons _).trans (List.Perm.swap _ _ _)))
      refine lv_aload_n hx hb dX7_readFunction_185 rfl (lv_at hl 0 rfl) ?_
      refine va_get (D := (dC, dI)) (ci := 1) (v := .ref (p0a 3)) (C := RX7) (T := TX7) (N := 18) hx hb hts i_X7 hown hK hP 0 rfl rfl 2 (by decide) (hts _ qw26) (fun _ h9 => h9) rfl dX7_readFunction_186 ?_
      refine va_get (D := (dC, dI)) (ci := 2) (v := .ref (p0_2a 7)) (C := RX6) (T := TX6) (N := 13) hx hb hts i_X6 hown hK hP 9 rfl rfl 6 (by decide) (hts _ qw1473) (fun _ h9 => h9) rfl dX7_readFunction_189 ?_
      refine lv_iload_n hx hb dX7_readFunction_192 rfl (lv_at hl 1 rfl) ?_
      refine lv_aload_n hx hb dX7_readFunction_193 rfl (lv_at hl 0 rfl) ?_
      refine va_get (D := (dC, dI)) (ci := 1) (v := .ref (p0a 3)) (C := RX7) (T := TX7) (N := 18) hx hb hts i_X7 hown hK hP 0 rfl rfl 2 (by decide) (hts _ qw26) (fun _ h9 => h9) rfl dX7_readFunction_194 ?_
      refine va_get (D := (dC, dI)) (ci := 2) (v := .int (o_24 0 7)) (C := RX6) (T := TX6) (N := 13) hx hb hts i_X6 hown hK hP 9 rfl rfl 7 (by decide) (hts _ qw66) (fun _ h9 => h9) rfl dX7_readFunction_197 ?_
      obtain ⟨hq25, hrun⟩ := chk9 hrun
      refine va_iast hx hb hK hP hD hS 15 13 rfl rfl (ixb_in hq25) dX7_readFunction_200 (fun H locs hP hD hS => ?_)
      have hP : va_P (dC, dI) cls (List.flatten ([(oX7 (p0a 0) p0a p0k (o_22.1) (o_22.2.1)), (oX6 (p0a 3) p0_2a p0_2k (upw o_24 7 (nn p1) (o_24 0 7)) l8), (oX10 (p0a 2) p0_1a p0_1k (o_22.2.2.2.1) (o_22.2.2.2.2))] : List va_W)) H := hP
      have hD : va_D A (List.flatten ([(oX7 (p0a 0) p0a p0k (o_22.1) (o_22.2.1)), (oX6 (p0a 3) p0_2a p0_2k (upw o_24 7 (nn p1) (o_24 0 7)) l8), (oX10 (p0a 2) p0_1a p0_1k (o_22.2.2.2.1) (o_22.2.2.2.2))] : List va_W)) := hD
      obtain ⟨w26, ew26, hrun⟩ := let9 hrun
      rw [← ew26] at hP hD
      have ho9 : ((o_22.1), (o_22.2.1), w26, l8, (o_22.2.2.2.1), (o_22.2.2.2.2)) = o := Option.some.inj hrun
      have hP9 : va_P (dC, dI) cls (List.flatten ([(oX7 (p0a 0) p0a p0k (o.1) (o.2.1)), (oX6 (p0a 3) p0_2a p0_2k (o.2.2.1) (o.2.2.2.1)), (oX10 (p0a 2) p0_1a p0_1k (o.2.2.2.2.1) (o.2.2.2.2.2))] : List va_W)) H := by first | exact hP | (rw [← ho9]; exact hP)
      have hD9 : va_D A (List.flatten ([(oX7 (p0a 0) p0a p0k (o.1) (o.2.1)), (oX6 (p0a 3) p0_2a p0_2k (o.2.2.1) (o.2.2.2.1)), (oX10 (p0a 2) p0_1a p0_1k (o.2.2.2.2.1) (o.2.2.2.2.2))] : List va_W)) := by first | exact hD | (rw [← ho9]; exact hD)
      subst hQ
      exact W.vret hx hb hr (fun t ht hW => ⟨⟨(), rfl, trivial, ⟨by rw [ht]; exact hP9, va_K.moved hW.alike hK, hD9⟩⟩, hS.F ht⟩) hS.2.2 dX7_readFunction_201
    rcases br9 hrun with ⟨hc27, hrun⟩ | ⟨hc27, hrun⟩
    · refine lv_if_lt (tgt := 61) hx hb dX7_readFunction_46 (by decide) (fun _ => ?_) (fun c => absurd hc27 c)
      exact J61 (o_4.1) _ _ _ hrun hP hD hK hS (lv_sub hl [0, 1] rfl)
    · refine lv_if_lt (tgt := 61) hx hb dX7_readFunction_46 (by decide) (fun c => absurd c hc27) (fun _ => ?_)
      refine lv_aload_n hx hb dX7_readFunction_49 rfl (lv_at hl 0 rfl) ?_
      refine lv_iconst (v := 3) hx hb dX7_readFunction_50 (by decide) ?_
      refine lv_aload_n hx hb dX7_readFunction_51 rfl (lv_at hl 0 rfl) ?_
      refine va_get (D := (dC, dI)) (ci := 1) (v := .ref (p0a 2)) (C := RX7) (T := TX7) (N := 18) hx hb hts i_X7 hown hK hP 0 rfl rfl 1 (by decide) (hts _ qw45) (fun _ h9 => h9) rfl dX7_readFunction_52 ?_
      refine va_get (D := (dC, dI)) (ci := 0) (v := .int ((o_4.2.1) 0 3)) (C := RX10) (T := TX10) (N := 8) hx hb hts i_X10 hown hK hP 20 rfl rfl 3 (by decide) (hts _ qw69) (fun _ h9 => h9) rfl dX7_readFunction_55 ?_
      obtain ⟨o_28, hc_28, hrun⟩ := bnd9 hrun
      have hPx : va_P (dC, dI) cls ((List.flatten ([(oX7 (p0a 0) p0a p0k (o_4.1) p0l)] : List va_W)) ++ (List.flatten ([(oX6 (p0a 3) p0_2a p0_2k p0_2w p0_2l), (oX10 (p0a 2) p0_1a p0_1k (o_4.2.1) (o_4.2.2))] : List va_W))) H := vP_fa (vP_perm hP (bP (List.Perm.refl _)))
      have hDx : va_D A ((List.flatten ([(oX7 (p0a 0) p0a p0k (o_4.1) p0l)] : List va_W)) ++ (List.flatten ([(oX6 (p0a 3) p0_2a p0_2k p0_2w p0_2l), (oX10 (p0a 2) p0_1a p0_1k (o_4.2.1) (o_4.2.2))] : List va_W))) := vD_fa (vD_perm hD (bP (List.Perm.refl _)))
      have hKx : va_K (dC, dI) cls ((List.flatten ([(tX7 p0k)] : List (List (ClassId × FieldType)))) ++ (List.flatten ([(tX6 p0_2k), (tX10 p0_1k)] : List (List (ClassId × FieldType))))) s := vK_fa (vK_perm hK (bP (List.Perm.refl _)))
      have hPc := vP_l hPx
      have hDc := vD_l hDx
      have hKc := vK_l hKx
      have hFc := vfree hDx hS hA
      refine va_callv (va_runV (As := [.int 3, .int ((o_4.2.1) 0 3)]) (rest := []) ⟨hx, hb, hml, hown, hts⟩ (kX7_blame l dC dI (p0a := p0a) (p0k := p0k) (p0w := (o_4.1)) (p0l := p0l) (p1 := 3) (p2 := ((o_4.2.1) 0 3)) (sz := _) (o := o_28) (hrun := hc_28)) (cwV 2 hts (gi_V qw62 qw63 qw64 qw65 (gi_z qw61)) rfl rfl rfl (by decide +kernel) ⟨rmF (Nat.le_of_ble_eq_true rfl), rmL (Nat.le_of_ble_eq_true rfl)⟩) ⟨PRE.blind, va_recv hKc hPc (ci := 1) (q0 := 0) rfl rfl, PRE.of hE hS hFc hPc hKc hDc⟩ rfl rfl hl.1 rfl (lv_room (Nat.le_of_ble_eq_true rfl)) dX7_readFunction_58 ⟨(Nat.le_of_ble_eq_true rfl), (Nat.le_of_ble_eq_true rfl)⟩) hS (fun q _ h => hFc q h) hFc (fun u t H locs ht hvm hw hB hz1 hk1 hS => ?_)
      obtain ⟨b1, b2, b3⟩ := hB
      rw [ht] at b1
      obtain ⟨hP, hD, hK⟩ := JOINC (wc := (List.flatten ([(oX7 (p0a 0) p0a p0k (o_4.1) p0l)] : List va_W))) (wr := (List.flatten ([(oX6 (p0a 3) p0_2a p0_2k p0_2w p0_2l), (oX10 (p0a 2) p0_1a p0_1k (o_4.2.1) (o_4.2.2))] : List va_W))) (w1 := (List.flatten ([(oX7 (p0a 0) p0a p0k o_28 p0l)] : List va_W))) (t1 := (List.flatten ([(tX7 p0k)] : List (List (ClassId × FieldType))))) hPx hDx hKx hk1 hFc b1 (va_K.moved hvm.symm b2) b3
      have hP : va_P (dC, dI) cls (List.flatten ([(oX7 (p0a 0) p0a p0k o_28 p0l), (oX6 (p0a 3) p0_2a p0_2k p0_2w p0_2l), (oX10 (p0a 2) p0_1a p0_1k (o_4.2.1) (o_4.2.2))] : List va_W)) H := vP_perm (vP_fb hP) (bP (List.Perm.refl _))
      have hD : va_D A (List.flatten ([(oX7 (p0a 0) p0a p0k o_28 p0l), (oX6 (p0a 3) p0_2a p0_2k p0_2w p0_2l), (oX10 (p0a 2) p0_1a p0_1k (o_4.2.1) (o_4.2.2))] : List va_W)) := vD_perm (vD_fb hD) (bP (List.Perm.refl _))
      have hK : va_K (dC, dI) cls (List.flatten ([(tX7 p0k), (tX6 p0_2k), (tX10 p0_1k)] : List (List (ClassId × FieldType)))) s := vK_perm (vK_fb hK) (bP (List.Perm.refl _))
      exact J61 o_28 _ _ _ hrun hP hD hK hS (lv_sub hl [0, 1] rfl)
  rcases br9 hrun with ⟨hc29, hrun⟩ | ⟨hc29, hrun⟩
  · refine lv_icmp_lt (tgt := 10) hx hb dX7_readFunction_3 (by decide) (fun _ => ?_) (fun c => absurd hc29 c)
    exact J10 _ _ _ hrun hP hD hK hS (lv_sub hl [0, 1] rfl)
  · refine lv_icmp_lt (tgt := 10) hx hb dX7_readFunction_3 (by decide) (fun c => absurd c hc29) (fun _ => ?_)
    refine lv_aload_n hx hb dX7_readFunction_6 rfl (lv_at hl 0 rfl) ?_
    cases hrun
theorem kX7_readFunctionR (l : Launch) : ∀ {zs : ZS} (dC : Nat → ClassId) (dI : Nat → Nat → Nat) (p0a : Nat → Nat) (p0k : Nat → ClassId) (p0w : ST) (p0l : SL) (p1 : Int32) (aK : Nat → Nat) (aV : Nat → Nat) (p0_2a : Nat → Nat) (p0_2k : Nat → ClassId) (p0_2w : ST) (p0_2l : SL) (p0_1a : Nat → Nat) (p0_1k : Nat → ClassId) (p0_1w : ST) (p0_1l : SL) (sz : Nat) (o : ST × SL × ST × SL × ST × SL) (hrun : fX7_readFunction ((rR 100).1) p0w p0l p1 p0_2w p0_2l p0_1w p0_1l = some o), Met l yX7_readFunction (wz yX7_readFunction cX7_readFunction 2 (Option.none : Option Jvm.ClassFile.FieldType)) ({ frames := 808, cells := 0, slots := 0, locals := 40400 } : Room) (va_Pc [.ref (p0a 0), .int p1] (PRE (zA zs (st9 aK aV)) dC dI (List.flatten ([(oX7 (p0a 0) p0a p0k p0w p0l), (oX6 (p0a 3) p0_2a p0_2k p0_2w p0_2l), (oX10 (p0a 2) p0_1a p0_1k p0_1w p0_1l)] : List va_W)) (List.flatten ([(tX7 p0k), (tX6 p0_2k), (tX10 p0_1k)] : List (List (ClassId × FieldType)))) sz)) (va_Qv (fun (_ : Unit) => True) (fun _ t => POST dC dI (List.flatten ([(oX7 (p0a 0) p0a p0k (o.1) (o.2.1)), (oX6 (p0a 3) p0_2a p0_2k (o.2.2.1) (o.2.2.2.1)), (oX10 (p0a 2) p0_1a p0_1k (o.2.2.2.2.1) (o.2.2.2.2.2))] : List va_W)) (List.flatten ([(tX7 p0k), (tX6 p0_2k), (tX10 p0_1k)] : List (List (ClassId × FieldType)))) (va_A (List.flatten ([(oX7 (p0a 0) p0a p0k p0w p0l), (oX6 (p0a 3) p0_2a p0_2k p0_2w p0_2l), (oX10 (p0a 2) p0_1a p0_1k p0_1w p0_1l)] : List va_W)) sz) t) (va_A (List.flatten ([(oX7 (p0a 0) p0a p0k p0w p0l), (oX6 (p0a 3) p0_2a p0_2k p0_2w p0_2l), (oX10 (p0a 2) p0_1a p0_1k p0_1w p0_1l)] : List va_W)) sz)) 0 0 (va_A (List.flatten ([(oX7 (p0a 0) p0a p0k p0w p0l), (oX6 (p0a 3) p0_2a p0_2k p0_2w p0_2l), (oX10 (p0a 2) p0_1a p0_1k p0_1w p0_1l)] : List va_W)) sz) :=
  kX7_readFunction l ((rR 100).1) 800 40000 (rR_ok l 100).1
