abbrev cX13_print_ : ByteArray := prog_15_method_7_code
def yX13_print_ : MethodName := ⟨RX13, "print", "(LGearboxLaw$Line;)V"⟩
abbrev cX13_print : ByteArray := prog_15_method_6_code
def yX13_print : MethodName := ⟨RX13, "print", "([LGearboxLaw$Line;)V"⟩
theorem dX13_print__0 : decode cX13_print_ 0 = .ok (.aload_n 1, 1) := by decide +kernel
theorem dX13_print__1 : decode cX13_print_ 1 = .ok (.getfield 93, 3) := by decide +kernel
theorem dX13_print__4 : decode cX13_print_ 4 = .ok (.tableswitch 308 0 3 #[32, 74, 123, 211], 32) := by decide +kernel
theorem dX13_print__36 : decode cX13_print_ 36 = .ok (.aload_n 0, 1) := by decide +kernel
theorem dX13_print__37 : decode cX13_print_ 37 = .ok (.getfield 16, 3) := by decide +kernel
theorem dX13_print__40 : decode cX13_print_ 40 = .ok (.getstatic 111, 3) := by decide +kernel
theorem dX13_print__43 : decode cX13_print_ 43 = .ok (.aload_n 1, 1) := by decide +kernel
theorem dX13_print__44 : decode cX13_print_ 44 = .ok (.getfield 96, 3) := by decide +kernel
theorem dX13_print__47 : decode cX13_print_ 47 = .ok (.aaload, 1) := by decide +kernel
theorem dX13_print__48 : decode cX13_print_ 48 = .ok (.invokevirtual 47, 3) := by decide +kernel
theorem dX13_print__51 : decode cX13_print_ 51 = .ok (.ldc 115, 2) := by decide +kernel
theorem dX13_print__53 : decode cX13_print_ 53 = .ok (.invokevirtual 47, 3) := by decide +kernel
theorem dX13_print__56 : decode cX13_print_ 56 = .ok (.pop, 1) := by decide +kernel
theorem dX13_print__57 : decode cX13_print_ 57 = .ok (.aload_n 0, 1) := by decide +kernel
theorem dX13_print__58 : decode cX13_print_ 58 = .ok (.aload_n 1, 1) := by decide +kernel
theorem dX13_print__59 : decode cX13_print_ 59 = .ok (.getfield 86, 3) := by decide +kernel
theorem dX13_print__62 : decode cX13_print_ 62 = .ok (.invokevirtual 117, 3) := by decide +kernel
theorem dX13_print__65 : decode cX13_print_ 65 = .ok (.aload_n 0, 1) := by decide +kernel
theorem dX13_print__66 : decode cX13_print_ 66 = .ok (.getfield 16, 3) := by decide +kernel
theorem dX13_print__69 : decode cX13_print_ 69 = .ok (.ldc 120, 2) := by decide +kernel
theorem dX13_print__71 : decode cX13_print_ 71 = .ok (.invokevirtual 47, 3) := by decide +kernel
theorem dX13_print__74 : decode cX13_print_ 74 = .ok (.pop, 1) := by decide +kernel
theorem dX13_print__75 : decode cX13_print_ 75 = .ok (.goto 265, 3) := by decide +kernel
theorem dX13_print__78 : decode cX13_print_ 78 = .ok (.aload_n 0, 1) := by decide +kernel
theorem dX13_print__79 : decode cX13_print_ 79 = .ok (.getfield 16, 3) := by decide +kernel
theorem dX13_print__82 : decode cX13_print_ 82 = .ok (.ldc 122, 2) := by decide +kernel
theorem dX13_print__84 : decode cX13_print_ 84 = .ok (.invokevirtual 47, 3) := by decide +kernel
theorem dX13_print__87 : decode cX13_print_ 87 = .ok (.pop, 1) := by decide +kernel
theorem dX13_print__88 : decode cX13_print_ 88 = .ok (.aload_n 0, 1) := by decide +kernel
theorem dX13_print__89 : decode cX13_print_ 89 = .ok (.aload_n 1, 1) := by decide +kernel
theorem dX13_print__90 : decode cX13_print_ 90 = .ok (.getfield 86, 3) := by decide +kernel
theorem dX13_print__93 : decode cX13_print_ 93 = .ok (.invokevirtual 117, 3) := by decide +kernel
theorem dX13_print__96 : decode cX13_print_ 96 = .ok (.aload_n 0, 1) := by decide +kernel
theorem dX13_print__97 : decode cX13_print_ 97 = .ok (.getfield 16, 3) := by decide +kernel
theorem dX13_print__100 : decode cX13_print_ 100 = .ok (.ldc 124, 2) := by decide +kernel
theorem dX13_print__102 : decode cX13_print_ 102 = .ok (.invokevirtual 47, 3) := by decide +kernel
theorem dX13_print__105 : decode cX13_print_ 105 = .ok (.pop, 1) := by decide +kernel
theorem dX13_print__106 : decode cX13_print_ 106 = .ok (.aload_n 0, 1) := by decide +kernel
theorem dX13_print__107 : decode cX13_print_ 107 = .ok (.aload_n 1, 1) := by decide +kernel
theorem dX13_print__108 : decode cX13_print_ 108 = .ok (.getfield 99, 3) := by decide +kernel
theorem dX13_print__111 : decode cX13_print_ 111 = .ok (.invokevirtual 117, 3) := by decide +kernel
theorem dX13_print__114 : decode cX13_print_ 114 = .ok (.aload_n 0, 1) := by decide +kernel
theorem dX13_print__115 : decode cX13_print_ 115 = .ok (.getfield 16, 3) := by decide +kernel
theorem dX13_print__118 : decode cX13_print_ 118 = .ok (.ldc 120, 2) := by decide +kernel
theorem dX13_print__120 : decode cX13_print_ 120 = .ok (.invokevirtual 47, 3) := by decide +kernel
theorem dX13_print__123 : decode cX13_print_ 123 = .ok (.pop, 1) := by decide +kernel
theorem dX13_print__124 : decode cX13_print_ 124 = .ok (.goto 216, 3) := by decide +kernel
theorem dX13_print__127 : decode cX13_print_ 127 = .ok (.aload_n 0, 1) := by decide +kernel
theorem dX13_print__128 : decode cX13_print_ 128 = .ok (.getfield 16, 3) := by decide +kernel
theorem dX13_print__131 : decode cX13_print_ 131 = .ok (.ldc 126, 2) := by decide +kernel
theorem dX13_print__133 : decode cX13_print_ 133 = .ok (.invokevirtual 47, 3) := by decide +kernel
theorem dX13_print__136 : decode cX13_print_ 136 = .ok (.pop, 1) := by decide +kernel
theorem dX13_print__137 : decode cX13_print_ 137 = .ok (.aload_n 0, 1) := by decide +kernel
theorem dX13_print__138 : decode cX13_print_ 138 = .ok (.aload_n 1, 1) := by decide +kernel
theorem dX13_print__139 : decode cX13_print_ 139 = .ok (.getfield 86, 3) := by decide +kernel
theorem dX13_print__142 : decode cX13_print_ 142 = .ok (.invokevirtual 117, 3) := by decide +kernel
theorem dX13_print__145 : decode cX13_print_ 145 = .ok (.aload_n 0, 1) := by decide +kernel
theorem dX13_print__146 : decode cX13_print_ 146 = .ok (.getfield 16, 3) := by decide +kernel
theorem dX13_print__149 : decode cX13_print_ 149 = .ok (.ldc 128, 2) := by decide +kernel
theorem dX13_print__151 : decode cX13_print_ 151 = .ok (.invokevirtual 47, 3) := by decide +kernel
theorem dX13_print__154 : decode cX13_print_ 154 = .ok (.pop, 1) := by decide +kernel
theorem dX13_print__155 : decode cX13_print_ 155 = .ok (.aload_n 0, 1) := by decide +kernel
theorem dX13_print__156 : decode cX13_print_ 156 = .ok (.aload_n 1, 1) := by decide +kernel
theorem dX13_print__157 : decode cX13_print_ 157 = .ok (.getfield 102, 3) := by decide +kernel
theorem dX13_print__160 : decode cX13_print_ 160 = .ok (.invokevirtual 51, 3) := by decide +kernel
theorem dX13_print__163 : decode cX13_print_ 163 = .ok (.aload_n 0, 1) := by decide +kernel
theorem dX13_print__164 : decode cX13_print_ 164 = .ok (.getfield 16, 3) := by decide +kernel
theorem dX13_print__167 : decode cX13_print_ 167 = .ok (.ldc 55, 2) := by decide +kernel
theorem dX13_print__169 : decode cX13_print_ 169 = .ok (.invokevirtual 47, 3) := by decide +kernel
theorem dX13_print__172 : decode cX13_print_ 172 = .ok (.pop, 1) := by decide +kernel
theorem dX13_print__173 : decode cX13_print_ 173 = .ok (.aload_n 1, 1) := by decide +kernel
theorem dX13_print__174 : decode cX13_print_ 174 = .ok (.getfield 105, 3) := by decide +kernel
theorem dX13_print__177 : decode cX13_print_ 177 = .ok (.arraylength, 1) := by decide +kernel
theorem dX13_print__178 : decode cX13_print_ 178 = .ok (.ifCond .ne 6, 3) := by decide +kernel
theorem dX13_print__181 : decode cX13_print_ 181 = .ok (.goto 159, 3) := by decide +kernel
theorem dX13_print__184 : decode cX13_print_ 184 = .ok (.aload_n 0, 1) := by decide +kernel
theorem dX13_print__185 : decode cX13_print_ 185 = .ok (.getfield 16, 3) := by decide +kernel
theorem dX13_print__188 : decode cX13_print_ 188 = .ok (.ldc 130, 2) := by decide +kernel
theorem dX13_print__190 : decode cX13_print_ 190 = .ok (.invokevirtual 47, 3) := by decide +kernel
theorem dX13_print__193 : decode cX13_print_ 193 = .ok (.pop, 1) := by decide +kernel
theorem dX13_print__194 : decode cX13_print_ 194 = .ok (.aload_n 0, 1) := by decide +kernel
theorem dX13_print__195 : decode cX13_print_ 195 = .ok (.aload_n 1, 1) := by decide +kernel
theorem dX13_print__196 : decode cX13_print_ 196 = .ok (.getfield 105, 3) := by decide +kernel
theorem dX13_print__199 : decode cX13_print_ 199 = .ok (.invokevirtual 51, 3) := by decide +kernel
theorem dX13_print__202 : decode cX13_print_ 202 = .ok (.aload_n 0, 1) := by decide +kernel
theorem dX13_print__203 : decode cX13_print_ 203 = .ok (.getfield 16, 3) := by decide +kernel
theorem dX13_print__206 : decode cX13_print_ 206 = .ok (.ldc 55, 2) := by decide +kernel
theorem dX13_print__208 : decode cX13_print_ 208 = .ok (.invokevirtual 47, 3) := by decide +kernel
theorem dX13_print__211 : decode cX13_print_ 211 = .ok (.pop, 1) := by decide +kernel
theorem dX13_print__212 : decode cX13_print_ 212 = .ok (.goto 128, 3) := by decide +kernel
theorem dX13_print__215 : decode cX13_print_ 215 = .ok (.aload_n 0, 1) := by decide +kernel
theorem dX13_print__216 : decode cX13_print_ 216 = .ok (.getfield 16, 3) := by decide +kernel
theorem dX13_print__219 : decode cX13_print_ 219 = .ok (.ldc 132, 2) := by decide +kernel
theorem dX13_print__221 : decode cX13_print_ 221 = .ok (.invokevirtual 47, 3) := by decide +kernel
theorem dX13_print__224 : decode cX13_print_ 224 = .ok (.aload_n 1, 1) := by decide +kernel
theorem dX13_print__225 : decode cX13_print_ 225 = .ok (.getfield 96, 3) := by decide +kernel
theorem dX13_print__228 : decode cX13_print_ 228 = .ok (.invokevirtual 134, 3) := by decide +kernel
theorem dX13_print__231 : decode cX13_print_ 231 = .ok (.ldc 137, 2) := by decide +kernel
theorem dX13_print__233 : decode cX13_print_ 233 = .ok (.invokevirtual 47, 3) := by decide +kernel
theorem dX13_print__236 : decode cX13_print_ 236 = .ok (.aload_n 1, 1) := by decide +kernel
theorem dX13_print__237 : decode cX13_print_ 237 = .ok (.getfield 96, 3) := by decide +kernel
theorem dX13_print__240 : decode cX13_print_ 240 = .ok (.invokevirtual 134, 3) := by decide +kernel
theorem dX13_print__243 : decode cX13_print_ 243 = .ok (.ldc 139, 2) := by decide +kernel
theorem dX13_print__245 : decode cX13_print_ 245 = .ok (.invokevirtual 47, 3) := by decide +kernel
theorem dX13_print__248 : decode cX13_print_ 248 = .ok (.pop, 1) := by decide +kernel
theorem dX13_print__249 : decode cX13_print_ 249 = .ok (.aload_n 0, 1) := by decide +kernel
theorem dX13_print__250 : decode cX13_print_ 250 = .ok (.aload_n 1, 1) := by decide +kernel
theorem dX13_print__251 : decode cX13_print_ 251 = .ok (.getfield 99, 3) := by decide +kernel
theorem dX13_print__254 : decode cX13_print_ 254 = .ok (.invokevirtual 117, 3) := by decide +kernel
theorem dX13_print__257 : decode cX13_print_ 257 = .ok (.aload_n 0, 1) := by decide +kernel
theorem dX13_print__258 : decode cX13_print_ 258 = .ok (.getfield 16, 3) := by decide +kernel
theorem dX13_print__261 : decode cX13_print_ 261 = .ok (.ldc 128, 2) := by decide +kernel
theorem dX13_print__263 : decode cX13_print_ 263 = .ok (.invokevirtual 47, 3) := by decide +kernel
theorem dX13_print__266 : decode cX13_print_ 266 = .ok (.pop, 1) := by decide +kernel
theorem dX13_print__267 : decode cX13_print_ 267 = .ok (.aload_n 0, 1) := by decide +kernel
theorem dX13_print__268 : decode cX13_print_ 268 = .ok (.aload_n 1, 1) := by decide +kernel
theorem dX13_print__269 : decode cX13_print_ 269 = .ok (.getfield 102, 3) := by decide +kernel
theorem dX13_print__272 : decode cX13_print_ 272 = .ok (.invokevirtual 51, 3) := by decide +kernel
theorem dX13_print__275 : decode cX13_print_ 275 = .ok (.aload_n 0, 1) := by decide +kernel
theorem dX13_print__276 : decode cX13_print_ 276 = .ok (.getfield 16, 3) := by decide +kernel
theorem dX13_print__279 : decode cX13_print_ 279 = .ok (.ldc 141, 2) := by decide +kernel
theorem dX13_print__281 : decode cX13_print_ 281 = .ok (.invokevirtual 47, 3) := by decide +kernel
theorem dX13_print__284 : decode cX13_print_ 284 = .ok (.aload_n 1, 1) := by decide +kernel
theorem dX13_print__285 : decode cX13_print_ 285 = .ok (.getfield 96, 3) := by decide +kernel
theorem dX13_print__288 : decode cX13_print_ 288 = .ok (.invokevirtual 134, 3) := by decide +kernel
theorem dX13_print__291 : decode cX13_print_ 291 = .ok (.ldc 143, 2) := by decide +kernel
theorem dX13_print__293 : decode cX13_print_ 293 = .ok (.invokevirtual 47, 3) := by decide +kernel
theorem dX13_print__296 : decode cX13_print_ 296 = .ok (.aload_n 1, 1) := by decide +kernel
theorem dX13_print__297 : decode cX13_print_ 297 = .ok (.getfield 96, 3) := by decide +kernel
theorem dX13_print__300 : decode cX13_print_ 300 = .ok (.invokevirtual 134, 3) := by decide +kernel
theorem dX13_print__303 : decode cX13_print_ 303 = .ok (.ldc 145, 2) := by decide +kernel
theorem dX13_print__305 : decode cX13_print_ 305 = .ok (.invokevirtual 47, 3) := by decide +kernel
theorem dX13_print__308 : decode cX13_print_ 308 = .ok (.pop, 1) := by decide +kernel
theorem dX13_print__309 : decode cX13_print_ 309 = .ok (.goto 31, 3) := by decide +kernel
theorem dX13_print__312 : decode cX13_print_ 312 = .ok (.aload_n 0, 1) := by decide +kernel
theorem dX13_print__313 : decode cX13_print_ 313 = .ok (.getfield 16, 3) := by decide +kernel
theorem dX13_print__316 : decode cX13_print_ 316 = .ok (.ldc 147, 2) := by decide +kernel
theorem dX13_print__318 : decode cX13_print_ 318 = .ok (.invokevirtual 47, 3) := by decide +kernel
theorem dX13_print__321 : decode cX13_print_ 321 = .ok (.pop, 1) := by decide +kernel
theorem dX13_print__322 : decode cX13_print_ 322 = .ok (.aload_n 0, 1) := by decide +kernel
theorem dX13_print__323 : decode cX13_print_ 323 = .ok (.aload_n 1, 1) := by decide +kernel
theorem dX13_print__324 : decode cX13_print_ 324 = .ok (.getfield 86, 3) := by decide +kernel
theorem dX13_print__327 : decode cX13_print_ 327 = .ok (.invokevirtual 117, 3) := by decide +kernel
theorem dX13_print__330 : decode cX13_print_ 330 = .ok (.aload_n 0, 1) := by decide +kernel
theorem dX13_print__331 : decode cX13_print_ 331 = .ok (.getfield 16, 3) := by decide +kernel
theorem dX13_print__334 : decode cX13_print_ 334 = .ok (.ldc 120, 2) := by decide +kernel
theorem dX13_print__336 : decode cX13_print_ 336 = .ok (.invokevirtual 47, 3) := by decide +kernel
theorem dX13_print__339 : decode cX13_print_ 339 = .ok (.pop, 1) := by decide +kernel
theorem dX13_print__340 : decode cX13_print_ 340 = .ok (.return_, 1) := by decide +kernel
theorem qw1628 : Cond.instanceMethod yX13_print ∈ gw := mq_10 (i := 183) rfl rfl
theorem qw1629 : Cond.selects RX13 yX13_print yX13_print ∈ gw := mq_10 (i := 184) rfl rfl
theorem qw1630 : Cond.code yX13_print cX13_print 6 (Option.none : Option Jvm.ClassFile.FieldType) ∈ gw := mq_10 (i := 185) rfl rfl
theorem qw1631 : Cond.methodLink RX13 51 yX13_print ∈ gw := mq_10 (i := 182) rfl rfl
set_option maxHeartbeats 16000000 in
set_option maxRecDepth 100000 in
theorem kX13_pl_s (l : Launch) (aK aV : Nat → Nat) (aN aO dOv dTv : Nat) (Wt : va_W) (Tt : List (ClassId × FieldType)) (F9 L9 D9 : Nat) (ihA : ∀ (r n : Nat) (bs : List Int32), ar9 Wt Tt (lh9 Wt Tt D9) r n bs → PR9 l aK aV aN aO dOv dTv yX13_print (wz yX13_print cX13_print 6 (Option.none : Option Jvm.ClassFile.FieldType)) F9 L9 Wt Tt (.ref r) bs) (r : Nat) (bs : List Int32) (hlh : lh9 Wt Tt (D9 + 1) r bs) : PR9 l aK aV aN aO dOv dTv yX13_print_ (wz yX13_print_ cX13_print_ 2 (Option.none : Option Jvm.ClassFile.FieldType)) (F9 + 40) (L9 + 2000) Wt Tt (.ref r) bs := by
  intro zs dC dI p0a p0w t ta tk tn tw sz hsb hL
  refine Met.ofW (cc := cX13_print_) (maxL := 2) (ret := (Option.none : Option Jvm.ClassFile.FieldType)) (by decide) rfl ?_
  intro p e s m args below meth c s₁ B hml hv
  obtain ⟨rfl, hsz, hP, hK, hD0, hE⟩ := hv
  have hx := B.exec
  have hb := B.bytes
  have hr := B.returns
  have hts0 := atoms_spec (ws := wz yX13_print_ cX13_print_ 2 (Option.none : Option Jvm.ClassFile.FieldType)) B.pre
  have hts : ∀ w ∈ gw, w.before _ s = true := fun w h => hts0 w (List.mem_cons_of_mem _ h)
  have hown : s.vm.findClass RX13 = some m.cls := findClass_of_methodNamed B.named
  subst hsz
  have hD := hD0.self (sz := s.heap.size)
  refine gQ9 ?_
  intro Q hQ
  generalize hAe : va_A (List.flatten ([mdO p0a p0w, oJ4 (p0a 6) ta tk tn tw, Wt] : List va_W)) s.heap.size = A at hD hE hQ
  have hA : ∀ q : Nat, s.heap.size ≤ q → A q := fun q h => by rw [← hAe]; exact Or.inr h
  have hS : va_S A s.heap s.heap [] := va_S.rf
  have hP : va_P (dC, dI) cls (List.flatten ([mdO p0a p0w, oJ4 (p0a 6) ta tk tn tw, Wt] : List va_W)) s.heap := hP
  have hl := lv_entry ([.ref (p0a 0), .ref r]) (n := 2) (Nat.le_of_ble_eq_true rfl)
  rw [lg_entry_eq]
  generalize (lg_sl ([.ref (p0a 0), .ref r]) ++ List.replicate (2 - (lg_sl ([.ref (p0a 0), .ref r])).length) Slot.unset).toArray = ls at hl ⊢
  have hl : lv_has ls 2 [(0, .ref (p0a 0)), (1, .ref r)] := hl
  obtain ⟨H, hHe⟩ : ∃ H, H = s.heap := ⟨_, rfl⟩
  obtain ⟨locs, hle⟩ : ∃ locs : List Loc, locs = [] := ⟨_, rfl⟩
  rw [← hHe] at hP
  have hS : va_S A s.heap H locs := by rw [hHe, hle]; exact hS
  have hR9 : 6 ≤ F9 + 40 ∧ 140 ≤ L9 + 2000 ∧ 0 + pcl t.length bs.length ≤ pcl t.length bs.length ∧ 0 + psl t.length bs.length ≤ psl t.length bs.length := ⟨by omega, by omega, Nat.le_of_eq (Nat.zero_add _), Nat.le_of_eq (Nat.zero_add _)⟩
  show W p l e ({ frames := F9 + 40, cells := pcl t.length bs.length, slots := psl t.length bs.length, locals := L9 + 2000 } : Room) s m ([.ref (p0a 0), .ref r] : List Value).toArray below meth c s.heap [] 0 0 Q (F0 m 0 ls [])
  rw [← hle]
  refine wH9 hHe ?_
  refine W.widen (k := 0 + pcl t.length 0) (n := 0 + psl t.length 0) (Nat.zero_le _) (Nat.zero_le _) ?_
  have hT : TXS dC dI A p0a p0w Wt Tt t s H locs := ⟨ta, tk, tn, tw, hP, hD, hK, hS, hsb⟩
  clear hP hD hK hS
  rcases hlh with ⟨n, t1, o1, a1, c1, bt, hm0, hn, ht1, hbs⟩ | ⟨n, t1, q1, a1, c1, bt, bo, hm0, ht1, hq1, hbs⟩ | ⟨n, t1, o1, a1, c1, m1, bt, bx, hm0, ht1, ha1, hc1, hbs⟩ | ⟨n, t1, o1, a1, c1, m1, m2, bt, bx, b2, hm0, ht1, ha1, hc1, hm2, hbs⟩ | ⟨n, t1, q1, a1, c1, m1, bo, bx, hm0, hn, hq1, ha1, hbs⟩ | ⟨n, t1, o1, a1, c1, bt, hm0, ht1, hbs⟩
  · obtain ⟨h0, h5⟩ := of_decide_eq_true hn
    obtain ⟨v, hv, rfl⟩ := i9_n (k := 4) (by decide) h0 h5
    have hbs9 : bs = (mx_nm v) ++ (([61] : List Int32) ++ (bt ++ (([59] : List Int32)))) := by
      rw [hbs]
      show mx_nm (nn (pu_I v)) ++ _ = _
      rw [pu_nn (by omega)]
    have hN9 : bs.length = (mx_nm v).length + (([61] : List Int32).length + (bt.length + (([59] : List Int32).length))) := by rw [hbs9]; simp only [List.length_append]
    have hN9 : bs.length = (mx_nm v).length + (([61] : List Int32).length + (bt.length + (([59] : List Int32).length))) := by rw [hbs9]; simp only [List.length_append]
    refine lv_aload_n hx hb dX13_print__0 rfl (lv_at hl 1 rfl) ?_
    have hT9 := hT
    obtain ⟨ta1, tk1, tn1, tw1, hP, hD, hK, hS, hsb1⟩ := hT9
    obtain ⟨j0, hj0⟩ := List.getElem?_of_mem (fl_mem (L := ([mdO p0a p0w, oJ4 (p0a 6) ta1 tk1 tn1 tw1, Wt] : List va_W)) 2 rfl hm0)
    refine va_get (D := (dC, dI)) (ci := 15) (v := .int 0) (C := RX12) (T := TX12) (N := 6) hx hb hts i_X12 hown hK hP j0 hj0 rfl 0 (by decide) (hts _ qw1594) (fun _ h9 => h9) rfl dX13_print__1 ?_
    refine lv_tableIn (off := 32) (tgt := 36) hx hb dX13_print__4 (by decide) (by decide) rfl (by decide) ?_
    refine lv_aload_n hx hb dX13_print__36 rfl (lv_at hl 0 rfl) ?_
    have hT9 := hT
    obtain ⟨ta1, tk1, tn1, tw1, hP, hD, hK, hS, hsb1⟩ := hT9
    refine va_get (D := (dC, dI)) (ci := 14) (v := .ref (p0a 6)) (C := RX13) (T := TX13) (N := 13) hx hb hts i_X13 hown hK hP 0 rfl rfl 5 (by decide) (hts _ qw1618) (fun _ h9 => h9) rfl dX13_print__37 ?_
    have hT9 := hT
    obtain ⟨ta1, tk1, tn1, tw1, hP, hD, hK, hS, hsb1⟩ := hT9
    refine va_gets hx hb (zp_nm hE).1.1 hS hown (hts _ qw1620) (fun _ h9 => h9) dX13_print__40 ?_
    refine lv_aload_n hx hb dX13_print__43 rfl (lv_at hl 1 rfl) ?_
    have hT9 := hT
    obtain ⟨ta1, tk1, tn1, tw1, hP, hD, hK, hS, hsb1⟩ := hT9
    obtain ⟨j0, hj0⟩ := List.getElem?_of_mem (fl_mem (L := ([mdO p0a p0w, oJ4 (p0a 6) ta1 tk1 tn1 tw1, Wt] : List va_W)) 2 rfl hm0)
    refine va_get (D := (dC, dI)) (ci := 15) (v := .int (pu_I v)) (C := RX12) (T := TX12) (N := 6) hx hb hts i_X12 hown hK hP j0 hj0 rfl 1 (by decide) (hts _ qw1595) (fun _ h9 => h9) rfl dX13_print__44 ?_
    refine vb_tq hx hb (zp_nm hE).1.2 hS (ixb_in ((pu_ix (by omega)).mpr (by omega))) (v := .ref (aK (42 + v))) (by show Value.ref (aK (42 + nn (pu_I v))) = _; rw [pu_nn (by omega)]) dX13_print__47 ?_
    obtain ⟨q9, hq9, hn9, hf9⟩ := li_nm v (by omega)
    refine tx_apS (l := l) (x := mx_nm v) (b := 0) (t0 := t.length) (N := bs.length) ⟨hx, hb, hml, hown, hts⟩ hE hA hT (st9_q (zp_st hE) (42 + v) q9 hq9) hn9 (fun j _ => hf9 j) (asc_nm _) (Or.inl (by rw [(mx_nm_ok (by omega)).2]; decide)) (Nat.add_zero _).symm (by omega) hL hR9 dX13_print__48 hl.1 (Nat.le_of_ble_eq_true rfl) (fun H locs hT => ?_)
    refine va_ldcS hx hb hown (zp_st hE 5 _ rfl).2 dX13_print__51 ?_
    refine tx_apS (l := l) (x := ([61] : List Int32)) (b := (0 + (mx_nm v).length)) (t0 := t.length) (N := bs.length) ⟨hx, hb, hml, hown, hts⟩ hE hA hT (st9_q (zp_st hE) 5 _ rfl) rfl (fun j _ => rfl) (asc_of (by decide)) (Or.inl (by decide)) (by simp only [List.length_append]; omega) (by omega) hL hR9 dX13_print__53 hl.1 (Nat.le_of_ble_eq_true rfl) (fun H locs hT => ?_)
    refine lv_pop hx hb dX13_print__56 rfl ?_
    refine lv_aload_n hx hb dX13_print__57 rfl (lv_at hl 0 rfl) ?_
    refine lv_aload_n hx hb dX13_print__58 rfl (lv_at hl 1 rfl) ?_
    have hT9 := hT
    obtain ⟨ta1, tk1, tn1, tw1, hP, hD, hK, hS, hsb1⟩ := hT9
    obtain ⟨j0, hj0⟩ := List.getElem?_of_mem (fl_mem (L := ([mdO p0a p0w, oJ4 (p0a 6) ta1 tk1 tn1 tw1, Wt] : List va_W)) 2 rfl hm0)
    refine va_get (D := (dC, dI)) (ci := 15) (v := .ref t1) (C := RX12) (T := TX12) (N := 6) hx hb hts i_X12 hown hK hP j0 hj0 rfl 2 (by decide) (hts _ qw1593) (fun _ h9 => h9) rfl dX13_print__59 ?_
    refine tx_pr (l := l) (b := (0 + (mx_nm v).length + ([61] : List Int32).length)) (t0 := t.length) (N := bs.length) ⟨hx, hb, hml, hown, hts⟩ hE hA hT (kX13_pp l aK aV aN aO dOv dTv Wt Tt 3 _ _ ht1) (fun _ _ => cwV 1 hts (gi_V qw1625 qw1622 qw1623 qw1566 (gi_z qw1624)) rfl rfl rfl (by decide +kernel) ⟨Nat.le_trans (m := 40) (Nat.le_of_ble_eq_true rfl) (Nat.le_add_left 40 F9), Nat.le_trans (m := 2000) (Nat.le_of_ble_eq_true rfl) (Nat.le_add_left 2000 L9)⟩) (by simp only [List.length_append]; omega) (by omega) hL hR9.2.2 dX13_print__62 hl.1 (Nat.le_of_ble_eq_true rfl) (fun H locs hT => ?_)
    refine lv_aload_n hx hb dX13_print__65 rfl (lv_at hl 0 rfl) ?_
    have hT9 := hT
    obtain ⟨ta1, tk1, tn1, tw1, hP, hD, hK, hS, hsb1⟩ := hT9
    refine va_get (D := (dC, dI)) (ci := 14) (v := .ref (p0a 6)) (C := RX13) (T := TX13) (N := 13) hx hb hts i_X13 hown hK hP 0 rfl rfl 5 (by decide) (hts _ qw1618) (fun _ h9 => h9) rfl dX13_print__66 ?_
    refine va_ldcS hx hb hown (zp_st hE 6 _ rfl).2 dX13_print__69 ?_
    refine tx_apS (l := l) (x := ([59] : List Int32)) (b := (0 + (mx_nm v).length + ([61] : List Int32).length + bt.length)) (t0 := t.length) (N := bs.length) ⟨hx, hb, hml, hown, hts⟩ hE hA hT (st9_q (zp_st hE) 6 _ rfl) rfl (fun j _ => rfl) (asc_of (by decide)) (Or.inl (by decide)) (by simp only [List.length_append]; omega) (by omega) hL hR9 dX13_print__71 hl.1 (Nat.le_of_ble_eq_true rfl) (fun H locs hT => ?_)
    refine lv_pop hx hb dX13_print__74 rfl ?_
    refine lv_goto (tgt := 340) hx hb dX13_print__75 (by decide) ?_
    obtain ⟨ta1, tk1, tn1, tw1, hP, hD, hK, hS, hsb1⟩ := hT
    have hbs8 : (t ++ (mx_nm v) ++ ([61] : List Int32) ++ bt ++ ([59] : List Int32)) = t ++ bs := by rw [hbs9]; simp only [List.append_assoc]
    rw [hbs8] at hsb1
    subst hQ
    refine W.widen (k := pcl t.length bs.length) (n := psl t.length bs.length) (Nat.le_trans (Nat.le_of_eq (Nat.zero_add _)) (pcl_m (by omega)).1) (Nat.le_trans (Nat.le_of_eq (Nat.zero_add _)) (pcl_m (by omega)).2) ?_
    exact W.vret hx hb hr (fun u ht hW => ⟨⟨(), rfl, trivial, ta1, tk1, tn1, tw1, hsb1, by rw [ht]; exact hP, va_K.moved hW.alike hK, hD⟩, hS.F ht⟩) hS.2.2 dX13_print__340
  · have hbs9 : bs = ([91] : List Int32) ++ (bt ++ (([93, 61] : List Int32) ++ (bo ++ (([59] : List Int32))))) := by
      rw [hbs]
      show ([91] : List Int32) ++ (bt ++ (([93, 61] : List Int32) ++ (bo ++ (([59] : List Int32))))) = _
      simp only [List.append_assoc]
    have hN9 : bs.length = ([91] : List Int32).length + (bt.length + (([93, 61] : List Int32).length + (bo.length + (([59] : List Int32).length)))) := by rw [hbs9]; simp only [List.length_append]
    refine lv_aload_n hx hb dX13_print__0 rfl (lv_at hl 1 rfl) ?_
    have hT9 := hT
    obtain ⟨ta1, tk1, tn1, tw1, hP, hD, hK, hS, hsb1⟩ := hT9
    obtain ⟨j0, hj0⟩ := List.getElem?_of_mem (fl_mem (L := ([mdO p0a p0w, oJ4 (p0a 6) ta1 tk1 tn1 tw1, Wt] : List va_W)) 2 rfl hm0)
    refine va_get (D := (dC, dI)) (ci := 15) (v := .int 1) (C := RX12) (T := TX12) (N := 6) hx hb hts i_X12 hown hK hP j0 hj0 rfl 0 (by decide) (hts _ qw1594) (fun _ h9 => h9) rfl dX13_print__1 ?_
    refine lv_tableIn (off := 74) (tgt := 78) hx hb dX13_print__4 (by decide) (by decide) rfl (by decide) ?_
    refine lv_aload_n hx hb dX13_print__78 rfl (lv_at hl 0 rfl) ?_
    have hT9 := hT
    obtain ⟨ta1, tk1, tn1, tw1, hP, hD, hK, hS, hsb1⟩ := hT9
    refine va_get (D := (dC, dI)) (ci := 14) (v := .ref (p0a 6)) (C := RX13) (T := TX13) (N := 13) hx hb hts i_X13 hown hK hP 0 rfl rfl 5 (by decide) (hts _ qw1618) (fun _ h9 => h9) rfl dX13_print__79 ?_
    refine va_ldcS hx hb hown (zp_st hE 7 _ rfl).2 dX13_print__82 ?_
    refine tx_apS (l := l) (x := ([91] : List Int32)) (b := 0) (t0 := t.length) (N := bs.length) ⟨hx, hb, hml, hown, hts⟩ hE hA hT (st9_q (zp_st hE) 7 _ rfl) rfl (fun j _ => rfl) (asc_of (by decide)) (Or.inl (by decide)) (Nat.add_zero _).symm (by omega) hL hR9 dX13_print__84 hl.1 (Nat.le_of_ble_eq_true rfl) (fun H locs hT => ?_)
    refine lv_pop hx hb dX13_print__87 rfl ?_
    refine lv_aload_n hx hb dX13_print__88 rfl (lv_at hl 0 rfl) ?_
    refine lv_aload_n hx hb dX13_print__89 rfl (lv_at hl 1 rfl) ?_
    have hT9 := hT
    obtain ⟨ta1, tk1, tn1, tw1, hP, hD, hK, hS, hsb1⟩ := hT9
    obtain ⟨j0, hj0⟩ := List.getElem?_of_mem (fl_mem (L := ([mdO p0a p0w, oJ4 (p0a 6) ta1 tk1 tn1 tw1, Wt] : List va_W)) 2 rfl hm0)
    refine va_get (D := (dC, dI)) (ci := 15) (v := .ref t1) (C := RX12) (T := TX12) (N := 6) hx hb hts i_X12 hown hK hP j0 hj0 rfl 2 (by decide) (hts _ qw1593) (fun _ h9 => h9) rfl dX13_print__90 ?_
    refine tx_pr (l := l) (b := (0 + ([91] : List Int32).length)) (t0 := t.length) (N := bs.length) ⟨hx, hb, hml, hown, hts⟩ hE hA hT (kX13_pp l aK aV aN aO dOv dTv Wt Tt 3 _ _ ht1) (fun _ _ => cwV 1 hts (gi_V qw1625 qw1622 qw1623 qw1566 (gi_z qw1624)) rfl rfl rfl (by decide +kernel) ⟨Nat.le_trans (m := 40) (Nat.le_of_ble_eq_true rfl) (Nat.le_add_left 40 F9), Nat.le_trans (m := 2000) (Nat.le_of_ble_eq_true rfl) (Nat.le_add_left 2000 L9)⟩) (by simp only [List.length_append]; omega) (by omega) hL hR9.2.2 dX13_print__93 hl.1 (Nat.le_of_ble_eq_true rfl) (fun H locs hT => ?_)
    refine lv_aload_n hx hb dX13_print__96 rfl (lv_at hl 0 rfl) ?_
    have hT9 := hT
    obtain ⟨ta1, tk1, tn1, tw1, hP, hD, hK, hS, hsb1⟩ := hT9
    refine va_get (D := (dC, dI)) (ci := 14) (v := .ref (p0a 6)) (C := RX13) (T := TX13) (N := 13) hx hb hts i_X13 hown hK hP 0 rfl rfl 5 (by decide) (hts _ qw1618) (fun _ h9 => h9) rfl dX13_print__97 ?_
    refine va_ldcS hx hb hown (zp_st hE 8 _ rfl).2 dX13_print__100 ?_
    refine tx_apS (l := l) (x := ([93, 61] : List Int32)) (b := (0 + ([91] : List Int32).length + bt.length)) (t0 := t.length) (N := bs.length) ⟨hx, hb, hml, hown, hts⟩ hE hA hT (st9_q (zp_st hE) 8 _ rfl) rfl (fun j _ => rfl) (asc_of (by decide)) (Or.inl (by decide)) (by simp only [List.length_append]; omega) (by omega) hL hR9 dX13_print__102 hl.1 (Nat.le_of_ble_eq_true rfl) (fun H locs hT => ?_)
    refine lv_pop hx hb dX13_print__105 rfl ?_
    refine lv_aload_n hx hb dX13_print__106 rfl (lv_at hl 0 rfl) ?_
    refine lv_aload_n hx hb dX13_print__107 rfl (lv_at hl 1 rfl) ?_
    have hT9 := hT
    obtain ⟨ta1, tk1, tn1, tw1, hP, hD, hK, hS, hsb1⟩ := hT9
    obtain ⟨j0, hj0⟩ := List.getElem?_of_mem (fl_mem (L := ([mdO p0a p0w, oJ4 (p0a 6) ta1 tk1 tn1 tw1, Wt] : List va_W)) 2 rfl hm0)
    refine va_get (D := (dC, dI)) (ci := 15) (v := .ref q1) (C := RX12) (T := TX12) (N := 6) hx hb hts i_X12 hown hK hP j0 hj0 rfl 3 (by decide) (hts _ qw1596) (fun _ h9 => h9) rfl dX13_print__108 ?_
    refine tx_pr (l := l) (b := (0 + ([91] : List Int32).length + bt.length + ([93, 61] : List Int32).length)) (t0 := t.length) (N := bs.length) ⟨hx, hb, hml, hown, hts⟩ hE hA hT (kX13_pp l aK aV aN aO dOv dTv Wt Tt 2 _ _ hq1) (fun _ _ => cwV 1 hts (gi_V qw1625 qw1622 qw1623 qw1566 (gi_z qw1624)) rfl rfl rfl (by decide +kernel) ⟨Nat.le_trans (m := 40) (Nat.le_of_ble_eq_true rfl) (Nat.le_add_left 40 F9), Nat.le_trans (m := 2000) (Nat.le_of_ble_eq_true rfl) (Nat.le_add_left 2000 L9)⟩) (by simp only [List.length_append]; omega) (by omega) hL hR9.2.2 dX13_print__111 hl.1 (Nat.le_of_ble_eq_true rfl) (fun H locs hT => ?_)
    refine lv_aload_n hx hb dX13_print__114 rfl (lv_at hl 0 rfl) ?_
    have hT9 := hT
    obtain ⟨ta1, tk1, tn1, tw1, hP, hD, hK, hS, hsb1⟩ := hT9
    refine va_get (D := (dC, dI)) (ci := 14) (v := .ref (p0a 6)) (C := RX13) (T := TX13) (N := 13) hx hb hts i_X13 hown hK hP 0 rfl rfl 5 (by decide) (hts _ qw1618) (fun _ h9 => h9) rfl dX13_print__115 ?_
    refine va_ldcS hx hb hown (zp_st hE 6 _ rfl).2 dX13_print__118 ?_
    refine tx_apS (l := l) (x := ([59] : List Int32)) (b := (0 + ([91] : List Int32).length + bt.length + ([93, 61] : List Int32).length + bo.length)) (t0 := t.length) (N := bs.length) ⟨hx, hb, hml, hown, hts⟩ hE hA hT (st9_q (zp_st hE) 6 _ rfl) rfl (fun j _ => rfl) (asc_of (by decide)) (Or.inl (by decide)) (by simp only [List.length_append]; omega) (by omega) hL hR9 dX13_print__120 hl.1 (Nat.le_of_ble_eq_true rfl) (fun H locs hT => ?_)
    refine lv_pop hx hb dX13_print__123 rfl ?_
    refine lv_goto (tgt := 340) hx hb dX13_print__124 (by decide) ?_
    obtain ⟨ta1, tk1, tn1, tw1, hP, hD, hK, hS, hsb1⟩ := hT
    have hbs8 : (t ++ ([91] : List Int32) ++ bt ++ ([93, 61] : List Int32) ++ bo ++ ([59] : List Int32)) = t ++ bs := by rw [hbs9]; simp only [List.append_assoc]
    rw [hbs8] at hsb1
    subst hQ
    refine W.widen (k := pcl t.length bs.length) (n := psl t.length bs.length) (Nat.le_trans (Nat.le_of_eq (Nat.zero_add _)) (pcl_m (by omega)).1) (Nat.le_trans (Nat.le_of_eq (Nat.zero_add _)) (pcl_m (by omega)).2) ?_
    exact W.vret hx hb hr (fun u ht hW => ⟨⟨(), rfl, trivial, ta1, tk1, tn1, tw1, hsb1, by rw [ht]; exact hP, va_K.moved hW.alike hK, hD⟩, hS.F ht⟩) hS.2.2 dX13_print__340
  · obtain ⟨k9, f9, hr9, hty9, _, _⟩ := hc1
    have hbs9 : bs = ([105, 102, 32] : List Int32) ++ (bt ++ (([123] : List Int32) ++ (bx ++ (([125] : List Int32))))) := by
      rw [hbs]
      show ([105, 102, 32] : List Int32) ++ (bt ++ (([123] : List Int32) ++ (bx ++ (([125] : List Int32))))) = _
      simp only [List.append_assoc]
    have hN9 : bs.length = ([105, 102, 32] : List Int32).length + (bt.length + (([123] : List Int32).length + (bx.length + (([125] : List Int32).length)))) := by rw [hbs9]; simp only [List.length_append]
    refine lv_aload_n hx hb dX13_print__0 rfl (lv_at hl 1 rfl) ?_
    have hT9 := hT
    obtain ⟨ta1, tk1, tn1, tw1, hP, hD, hK, hS, hsb1⟩ := hT9
    obtain ⟨j0, hj0⟩ := List.getElem?_of_mem (fl_mem (L := ([mdO p0a p0w, oJ4 (p0a 6) ta1 tk1 tn1 tw1, Wt] : List va_W)) 2 rfl hm0)
    refine va_get (D := (dC, dI)) (ci := 15) (v := .int 2) (C := RX12) (T := TX12) (N := 6) hx hb hts i_X12 hown hK hP j0 hj0 rfl 0 (by decide) (hts _ qw1594) (fun _ h9 => h9) rfl dX13_print__1 ?_
    refine lv_tableIn (off := 123) (tgt := 127) hx hb dX13_print__4 (by decide) (by decide) rfl (by decide) ?_
    refine lv_aload_n hx hb dX13_print__127 rfl (lv_at hl 0 rfl) ?_
    have hT9 := hT
    obtain ⟨ta1, tk1, tn1, tw1, hP, hD, hK, hS, hsb1⟩ := hT9
    refine va_get (D := (dC, dI)) (ci := 14) (v := .ref (p0a 6)) (C := RX13) (T := TX13) (N := 13) hx hb hts i_X13 hown hK hP 0 rfl rfl 5 (by decide) (hts _ qw1618) (fun _ h9 => h9) rfl dX13_print__128 ?_
    refine va_ldcS hx hb hown (zp_st hE 9 _ rfl).2 dX13_print__131 ?_
    refine tx_apS (l := l) (x := ([105, 102, 32] : List Int32)) (b := 0) (t0 := t.length) (N := bs.length) ⟨hx, hb, hml, hown, hts⟩ hE hA hT (st9_q (zp_st hE) 9 _ rfl) rfl (fun j _ => rfl) (asc_of (by decide)) (Or.inl (by decide)) (Nat.add_zero _).symm (by omega) hL hR9 dX13_print__133 hl.1 (Nat.le_of_ble_eq_true rfl) (fun H locs hT => ?_)
    refine lv_pop hx hb dX13_print__136 rfl ?_
    refine lv_aload_n hx hb dX13_print__137 rfl (lv_at hl 0 rfl) ?_
    refine lv_aload_n hx hb dX13_print__138 rfl (lv_at hl 1 rfl) ?_
    have hT9 := hT
    obtain ⟨ta1, tk1, tn1, tw1, hP, hD, hK, hS, hsb1⟩ := hT9
    obtain ⟨j0, hj0⟩ := List.getElem?_of_mem (fl_mem (L := ([mdO p0a p0w, oJ4 (p0a 6) ta1 tk1 tn1 tw1, Wt] : List va_W)) 2 rfl hm0)
    refine va_get (D := (dC, dI)) (ci := 15) (v := .ref t1) (C := RX12) (T := TX12) (N := 6) hx hb hts i_X12 hown hK hP j0 hj0 rfl 2 (by decide) (hts _ qw1593) (fun _ h9 => h9) rfl dX13_print__139 ?_
    refine tx_pr (l := l) (b := (0 + ([105, 102, 32] : List Int32).length)) (t0 := t.length) (N := bs.length) ⟨hx, hb, hml, hown, hts⟩ hE hA hT (kX13_pp l aK aV aN aO dOv dTv Wt Tt 3 _ _ ht1) (fun _ _ => cwV 1 hts (gi_V qw1625 qw1622 qw1623 qw1566 (gi_z qw1624)) rfl rfl rfl (by decide +kernel) ⟨Nat.le_trans (m := 40) (Nat.le_of_ble_eq_true rfl) (Nat.le_add_left 40 F9), Nat.le_trans (m := 2000) (Nat.le_of_ble_eq_true rfl) (Nat.le_add_left 2000 L9)⟩) (by simp only [List.length_append]; omega) (by omega) hL hR9.2.2 dX13_print__142 hl.1 (Nat.le_of_ble_eq_true rfl) (fun H locs hT => ?_)
    refine lv_aload_n hx hb dX13_print__145 rfl (lv_at hl 0 rfl) ?_
    have hT9 := hT
    obtain ⟨ta1, tk1, tn1, tw1, hP, hD, hK, hS, hsb1⟩ := hT9
    refine va_get (D := (dC, dI)) (ci := 14) (v := .ref (p0a 6)) (C := RX13) (T := TX13) (N := 13) hx hb hts i_X13 hown hK hP 0 rfl rfl 5 (by decide) (hts _ qw1618) (fun _ h9 => h9) rfl dX13_print__146 ?_
    refine va_ldcS hx hb hown (zp_st hE 10 _ rfl).2 dX13_print__149 ?_
    refine tx_apS (l := l) (x := ([123] : List Int32)) (b := (0 + ([105, 102, 32] : List Int32).length + bt.length)) (t0 := t.length) (N := bs.length) ⟨hx, hb, hml, hown, hts⟩ hE hA hT (st9_q (zp_st hE) 10 _ rfl) rfl (fun j _ => rfl) (asc_of (by decide)) (Or.inl (by decide)) (by simp only [List.length_append]; omega) (by omega) hL hR9 dX13_print__151 hl.1 (Nat.le_of_ble_eq_true rfl) (fun H locs hT => ?_)
    refine lv_pop hx hb dX13_print__154 rfl ?_
    refine lv_aload_n hx hb dX13_print__155 rfl (lv_at hl 0 rfl) ?_
    refine lv_aload_n hx hb dX13_print__156 rfl (lv_at hl 1 rfl) ?_
    have hT9 := hT
    obtain ⟨ta1, tk1, tn1, tw1, hP, hD, hK, hS, hsb1⟩ := hT9
    obtain ⟨j0, hj0⟩ := List.getElem?_of_mem (fl_mem (L := ([mdO p0a p0w, oJ4 (p0a 6) ta1 tk1 tn1 tw1, Wt] : List va_W)) 2 rfl hm0)
    refine va_get (D := (dC, dI)) (ci := 15) (v := .ref a1) (C := RX12) (T := TX12) (N := 6) hx hb hts i_X12 hown hK hP j0 hj0 rfl 4 (by decide) (hts _ qw1602) (fun _ h9 => h9) rfl dX13_print__157 ?_
    refine tx_pr (l := l) (b := (0 + ([105, 102, 32] : List Int32).length + bt.length + ([123] : List Int32).length)) (t0 := t.length) (N := bs.length) ⟨hx, hb, hml, hown, hts⟩ hE hA hT (ihA _ _ _ ha1) (fun _ _ => cwV 1 hts (gi_V qw1631 qw1628 qw1629 qw1566 (gi_z qw1630)) rfl rfl rfl (by decide +kernel) ⟨(show F9 + 1 ≤ F9 + 40 from by omega), (show 8 + (6 + 11) + L9 ≤ L9 + 2000 from by omega)⟩) (by simp only [List.length_append]; omega) (by omega) hL hR9.2.2 dX13_print__160 hl.1 (Nat.le_of_ble_eq_true rfl) (fun H locs hT => ?_)
    refine lv_aload_n hx hb dX13_print__163 rfl (lv_at hl 0 rfl) ?_
    have hT9 := hT
    obtain ⟨ta1, tk1, tn1, tw1, hP, hD, hK, hS, hsb1⟩ := hT9
    refine va_get (D := (dC, dI)) (ci := 14) (v := .ref (p0a 6)) (C := RX13) (T := TX13) (N := 13) hx hb hts i_X13 hown hK hP 0 rfl rfl 5 (by decide) (hts _ qw1618) (fun _ h9 => h9) rfl dX13_print__164 ?_
    refine va_ldcS hx hb hown (zp_st hE 4 _ rfl).2 dX13_print__167 ?_
    refine tx_apS (l := l) (x := ([125] : List Int32)) (b := (0 + ([105, 102, 32] : List Int32).length + bt.length + ([123] : List Int32).length + bx.length)) (t0 := t.length) (N := bs.length) ⟨hx, hb, hml, hown, hts⟩ hE hA hT (st9_q (zp_st hE) 4 _ rfl) rfl (fun j _ => rfl) (asc_of (by decide)) (Or.inl (by decide)) (by simp only [List.length_append]; omega) (by omega) hL hR9 dX13_print__169 hl.1 (Nat.le_of_ble_eq_true rfl) (fun H locs hT => ?_)
    refine lv_pop hx hb dX13_print__172 rfl ?_
    refine lv_aload_n hx hb dX13_print__173 rfl (lv_at hl 1 rfl) ?_
    have hT9 := hT
    obtain ⟨ta1, tk1, tn1, tw1, hP, hD, hK, hS, hsb1⟩ := hT9
    obtain ⟨j0, hj0⟩ := List.getElem?_of_mem (fl_mem (L := ([mdO p0a p0w, oJ4 (p0a 6) ta1 tk1 tn1 tw1, Wt] : List va_W)) 2 rfl hm0)
    refine va_get (D := (dC, dI)) (ci := 15) (v := .ref c1) (C := RX12) (T := TX12) (N := 6) hx hb hts i_X12 hown hK hP j0 hj0 rfl 5 (by decide) (hts _ qw1603) (fun _ h9 => h9) rfl dX13_print__174 ?_
    have hT9 := hT
    obtain ⟨ta1, tk1, tn1, tw1, hP, hD, hK, hS, hsb1⟩ := hT9
    obtain ⟨j0, hj0⟩ := List.getElem?_of_mem (fl_mem (L := ([mdO p0a p0w, oJ4 (p0a 6) ta1 tk1 tn1 tw1, Wt] : List va_W)) 2 rfl hr9)
    obtain ⟨i0, hi0⟩ := List.getElem?_of_mem (fl_mem (L := ([[], tJ4 tk1, Tt] : List (List (ClassId × FieldType)))) 2 rfl hty9)
    refine va_alen (v := 0) hx hb hK hP j0 i0 hj0 hi0 rfl dX13_print__177 ?_
    refine lv_if_ne (tgt := 184) hx hb dX13_print__178 (by decide) (fun c => absurd (by decide) c) (fun _ => ?_)
    refine lv_goto (tgt := 340) hx hb dX13_print__181 (by decide) ?_
    obtain ⟨ta1, tk1, tn1, tw1, hP, hD, hK, hS, hsb1⟩ := hT
    have hbs8 : (t ++ ([105, 102, 32] : List Int32) ++ bt ++ ([123] : List Int32) ++ bx ++ ([125] : List Int32)) = t ++ bs := by rw [hbs9]; simp only [List.append_assoc]
    rw [hbs8] at hsb1
    subst hQ
    refine W.widen (k := pcl t.length bs.length) (n := psl t.length bs.length) (Nat.le_trans (Nat.le_of_eq (Nat.zero_add _)) (pcl_m (by omega)).1) (Nat.le_trans (Nat.le_of_eq (Nat.zero_add _)) (pcl_m (by omega)).2) ?_
    exact W.vret hx hb hr (fun u ht hW => ⟨⟨(), rfl, trivial, ta1, tk1, tn1, tw1, hsb1, by rw [ht]; exact hP, va_K.moved hW.alike hK, hD⟩, hS.F ht⟩) hS.2.2 dX13_print__340
  · have hc2 := hc1
    obtain ⟨k9, f9, hr9, hty9, h6, _⟩ := hc2
    have hpos : ¬ Int32.ofNat m2 = 0 := fun e => by
      have e2 := pu_inj (a := m2) (b := 0) (by omega) (by decide) e
      omega
    have hbs9 : bs = ([105, 102, 32] : List Int32) ++ (bt ++ (([123] : List Int32) ++ (bx ++ (([125] : List Int32) ++ (([101, 108, 115, 101, 123] : List Int32) ++ (b2 ++ (([125] : List Int32)))))))) := by
      rw [hbs]
      show ([105, 102, 32] : List Int32) ++ (bt ++ (([123] : List Int32) ++ (bx ++ (([125] : List Int32) ++ (([101, 108, 115, 101, 123] : List Int32) ++ (b2 ++ (([125] : List Int32)))))))) = _
      simp only [List.append_assoc]
    have hN9 : bs.length = ([105, 102, 32] : List Int32).length + (bt.length + (([123] : List Int32).length + (bx.length + (([125] : List Int32).length + (([101, 108, 115, 101, 123] : List Int32).length + (b2.length + (([125] : List Int32).length))))))) := by rw [hbs9]; simp only [List.length_append]
    refine lv_aload_n hx hb dX13_print__0 rfl (lv_at hl 1 rfl) ?_
    have hT9 := hT
    obtain ⟨ta1, tk1, tn1, tw1, hP, hD, hK, hS, hsb1⟩ := hT9
    obtain ⟨j0, hj0⟩ := List.getElem?_of_mem (fl_mem (L := ([mdO p0a p0w, oJ4 (p0a 6) ta1 tk1 tn1 tw1, Wt] : List va_W)) 2 rfl hm0)
    refine va_get (D := (dC, dI)) (ci := 15) (v := .int 2) (C := RX12) (T := TX12) (N := 6) hx hb hts i_X12 hown hK hP j0 hj0 rfl 0 (by decide) (hts _ qw1594) (fun _ h9 => h9) rfl dX13_print__1 ?_
    refine lv_tableIn (off := 123) (tgt := 127) hx hb dX13_print__4 (by decide) (by decide) rfl (by decide) ?_
    refine lv_aload_n hx hb dX13_print__127 rfl (lv_at hl 0 rfl) ?_
    have hT9 := hT
    obtain ⟨ta1, tk1, tn1, tw1, hP, hD, hK, hS, hsb1⟩ := hT9
    refine va_get (D := (dC, dI)) (ci := 14) (v := .ref (p0a 6)) (C := RX13) (T := TX13) (N := 13) hx hb hts i_X13 hown hK hP 0 rfl rfl 5 (by decide) (hts _ qw1618) (fun _ h9 => h9) rfl dX13_print__128 ?_
    refine va_ldcS hx hb hown (zp_st hE 9 _ rfl).2 dX13_print__131 ?_
    refine tx_apS (l := l) (x := ([105, 102, 32] : List Int32)) (b := 0) (t0 := t.length) (N := bs.length) ⟨hx, hb, hml, hown, hts⟩ hE hA hT (st9_q (zp_st hE) 9 _ rfl) rfl (fun j _ => rfl) (asc_of (by decide)) (Or.inl (by decide)) (Nat.add_zero _).symm (by omega) hL hR9 dX13_print__133 hl.1 (Nat.le_of_ble_eq_true rfl) (fun H locs hT => ?_)
    refine lv_pop hx hb dX13_print__136 rfl ?_
    refine lv_aload_n hx hb dX13_print__137 rfl (lv_at hl 0 rfl) ?_
    refine lv_aload_n hx hb dX13_print__138 rfl (lv_at hl 1 rfl) ?_
    have hT9 := hT
    obtain ⟨ta1, tk1, tn1, tw1, hP, hD, hK, hS, hsb1⟩ := hT9
    obtain ⟨j0, hj0⟩ := List.getElem?_of_mem (fl_mem (L := ([mdO p0a p0w, oJ4 (p0a 6) ta1 tk1 tn1 tw1, Wt] : List va_W)) 2 rfl hm0)
    refine va_get (D := (dC, dI)) (ci := 15) (v := .ref t1) (C := RX12) (T := TX12) (N := 6) hx hb hts i_X12 hown hK hP j0 hj0 rfl 2 (by decide) (hts _ qw1593) (fun _ h9 => h9) rfl dX13_print__139 ?_
    refine tx_pr (l := l) (b := (0 + ([105, 102, 32] : List Int32).length)) (t0 := t.length) (N := bs.length) ⟨hx, hb, hml, hown, hts⟩ hE hA hT (kX13_pp l aK aV aN aO dOv dTv Wt Tt 3 _ _ ht1) (fun _ _ => cwV 1 hts (gi_V qw1625 qw1622 qw1623 qw1566 (gi_z qw1624)) rfl rfl rfl (by decide +kernel) ⟨Nat.le_trans (m := 40) (Nat.le_of_ble_eq_true rfl) (Nat.le_add_left 40 F9), Nat.le_trans (m := 2000) (Nat.le_of_ble_eq_true rfl) (Nat.le_add_left 2000 L9)⟩) (by simp only [List.length_append]; omega) (by omega) hL hR9.2.2 dX13_print__142 hl.1 (Nat.le_of_ble_eq_true rfl) (fun H locs hT => ?_)
    refine lv_aload_n hx hb dX13_print__145 rfl (lv_at hl 0 rfl) ?_
    have hT9 := hT
    obtain ⟨ta1, tk1, tn1, tw1, hP, hD, hK, hS, hsb1⟩ := hT9
    refine va_get (D := (dC, dI)) (ci := 14) (v := .ref (p0a 6)) (C := RX13) (T := TX13) (N := 13) hx hb hts i_X13 hown hK hP 0 rfl rfl 5 (by decide) (hts _ qw1618) (fun _ h9 => h9) rfl dX13_print__146 ?_
    refine va_ldcS hx hb hown (zp_st hE 10 _ rfl).2 dX13_print__149 ?_
    refine tx_apS (l := l) (x := ([123] : List Int32)) (b := (0 + ([105, 102, 32] : List Int32).length + bt.length)) (t0 := t.length) (N := bs.length) ⟨hx, hb, hml, hown, hts⟩ hE hA hT (st9_q (zp_st hE) 10 _ rfl) rfl (fun j _ => rfl) (asc_of (by decide)) (Or.inl (by decide)) (by simp only [List.length_append]; omega) (by omega) hL hR9 dX13_print__151 hl.1 (Nat.le_of_ble_eq_true rfl) (fun H locs hT => ?_)
    refine lv_pop hx hb dX13_print__154 rfl ?_
    refine lv_aload_n hx hb dX13_print__155 rfl (lv_at hl 0 rfl) ?_
    refine lv_aload_n hx hb dX13_print__156 rfl (lv_at hl 1 rfl) ?_
    have hT9 := hT
    obtain ⟨ta1, tk1, tn1, tw1, hP, hD, hK, hS, hsb1⟩ := hT9
    obtain ⟨j0, hj0⟩ := List.getElem?_of_mem (fl_mem (L := ([mdO p0a p0w, oJ4 (p0a 6) ta1 tk1 tn1 tw1, Wt] : List va_W)) 2 rfl hm0)
    refine va_get (D := (dC, dI)) (ci := 15) (v := .ref a1) (C := RX12) (T := TX12) (N := 6) hx hb hts i_X12 hown hK hP j0 hj0 rfl 4 (by decide) (hts _ qw1602) (fun _ h9 => h9) rfl dX13_print__157 ?_
    refine tx_pr (l := l) (b := (0 + ([105, 102, 32] : List Int32).length + bt.length + ([123] : List Int32).length)) (t0 := t.length) (N := bs.length) ⟨hx, hb, hml, hown, hts⟩ hE hA hT (ihA _ _ _ ha1) (fun _ _ => cwV 1 hts (gi_V qw1631 qw1628 qw1629 qw1566 (gi_z qw1630)) rfl rfl rfl (by decide +kernel) ⟨(show F9 + 1 ≤ F9 + 40 from by omega), (show 8 + (6 + 11) + L9 ≤ L9 + 2000 from by omega)⟩) (by simp only [List.length_append]; omega) (by omega) hL hR9.2.2 dX13_print__160 hl.1 (Nat.le_of_ble_eq_true rfl) (fun H locs hT => ?_)
    refine lv_aload_n hx hb dX13_print__163 rfl (lv_at hl 0 rfl) ?_
    have hT9 := hT
    obtain ⟨ta1, tk1, tn1, tw1, hP, hD, hK, hS, hsb1⟩ := hT9
    refine va_get (D := (dC, dI)) (ci := 14) (v := .ref (p0a 6)) (C := RX13) (T := TX13) (N := 13) hx hb hts i_X13 hown hK hP 0 rfl rfl 5 (by decide) (hts _ qw1618) (fun _ h9 => h9) rfl dX13_print__164 ?_
    refine va_ldcS hx hb hown (zp_st hE 4 _ rfl).2 dX13_print__167 ?_
    refine tx_apS (l := l) (x := ([125] : List Int32)) (b := (0 + ([105, 102, 32] : List Int32).length + bt.length + ([123] : List Int32).length + bx.length)) (t0 := t.length) (N := bs.length) ⟨hx, hb, hml, hown, hts⟩ hE hA hT (st9_q (zp_st hE) 4 _ rfl) rfl (fun j _ => rfl) (asc_of (by decide)) (Or.inl (by decide)) (by simp only [List.length_append]; omega) (by omega) hL hR9 dX13_print__169 hl.1 (Nat.le_of_ble_eq_true rfl) (fun H locs hT => ?_)
    refine lv_pop hx hb dX13_print__172 rfl ?_
    refine lv_aload_n hx hb dX13_print__173 rfl (lv_at hl 1 rfl) ?_
    have hT9 := hT
    obtain ⟨ta1, tk1, tn1, tw1, hP, hD, hK, hS, hsb1⟩ := hT9
    obtain ⟨j0, hj0⟩ := List.getElem?_of_mem (fl_mem (L := ([mdO p0a p0w, oJ4 (p0a 6) ta1 tk1 tn1 tw1, Wt] : List va_W)) 2 rfl hm0)
    refine va_get (D := (dC, dI)) (ci := 15) (v := .ref c1) (C := RX12) (T := TX12) (N := 6) hx hb hts i_X12 hown hK hP j0 hj0 rfl 5 (by decide) (hts _ qw1603) (fun _ h9 => h9) rfl dX13_print__174 ?_
    have hT9 := hT
    obtain ⟨ta1, tk1, tn1, tw1, hP, hD, hK, hS, hsb1⟩ := hT9
    obtain ⟨j0, hj0⟩ := List.getElem?_of_mem (fl_mem (L := ([mdO p0a p0w, oJ4 (p0a 6) ta1 tk1 tn1 tw1, Wt] : List va_W)) 2 rfl hr9)
    obtain ⟨i0, hi0⟩ := List.getElem?_of_mem (fl_mem (L := ([[], tJ4 tk1, Tt] : List (List (ClassId × FieldType)))) 2 rfl hty9)
    refine va_alen (v := (Int32.ofNat m2)) hx hb hK hP j0 i0 hj0 hi0 rfl dX13_print__177 ?_
    refine lv_if_ne (tgt := 184) hx hb dX13_print__178 (by decide) (fun _ => ?_) (fun c => absurd c hpos)
    refine lv_aload_n hx hb dX13_print__184 rfl (lv_at hl 0 rfl) ?_
    have hT9 := hT
    obtain ⟨ta1, tk1, tn1, tw1, hP, hD, hK, hS, hsb1⟩ := hT9
    refine va_get (D := (dC, dI)) (ci := 14) (v := .ref (p0a 6)) (C := RX13) (T := TX13) (N := 13) hx hb hts i_X13 hown hK hP 0 rfl rfl 5 (by decide) (hts _ qw1618) (fun _ h9 => h9) rfl dX13_print__185 ?_
    refine va_ldcS hx hb hown (zp_st hE 11 _ rfl).2 dX13_print__188 ?_
    refine tx_apS (l := l) (x := ([101, 108, 115, 101, 123] : List Int32)) (b := (0 + ([105, 102, 32] : List Int32).length + bt.length + ([123] : List Int32).length + bx.length + ([125] : List Int32).length)) (t0 := t.length) (N := bs.length) ⟨hx, hb, hml, hown, hts⟩ hE hA hT (st9_q (zp_st hE) 11 _ rfl) rfl (fun j _ => rfl) (asc_of (by decide)) (Or.inl (by decide)) (by simp only [List.length_append]; omega) (by omega) hL hR9 dX13_print__190 hl.1 (Nat.le_of_ble_eq_true rfl) (fun H locs hT => ?_)
    refine lv_pop hx hb dX13_print__193 rfl ?_
    refine lv_aload_n hx hb dX13_print__194 rfl (lv_at hl 0 rfl) ?_
    refine lv_aload_n hx hb dX13_print__195 rfl (lv_at hl 1 rfl) ?_
    have hT9 := hT
    obtain ⟨ta1, tk1, tn1, tw1, hP, hD, hK, hS, hsb1⟩ := hT9
    obtain ⟨j0, hj0⟩ := List.getElem?_of_mem (fl_mem (L := ([mdO p0a p0w, oJ4 (p0a 6) ta1 tk1 tn1 tw1, Wt] : List va_W)) 2 rfl hm0)
    refine va_get (D := (dC, dI)) (ci := 15) (v := .ref c1) (C := RX12) (T := TX12) (N := 6) hx hb hts i_X12 hown hK hP j0 hj0 rfl 5 (by decide) (hts _ qw1603) (fun _ h9 => h9) rfl dX13_print__196 ?_
    refine tx_pr (l := l) (b := (0 + ([105, 102, 32] : List Int32).length + bt.length + ([123] : List Int32).length + bx.length + ([125] : List Int32).length + ([101, 108, 115, 101, 123] : List Int32).length)) (t0 := t.length) (N := bs.length) ⟨hx, hb, hml, hown, hts⟩ hE hA hT (ihA _ _ _ hc1) (fun _ _ => cwV 1 hts (gi_V qw1631 qw1628 qw1629 qw1566 (gi_z qw1630)) rfl rfl rfl (by decide +kernel) ⟨(show F9 + 1 ≤ F9 + 40 from by omega), (show 8 + (6 + 11) + L9 ≤ L9 + 2000 from by omega)⟩) (by simp only [List.length_append]; omega) (by omega) hL hR9.2.2 dX13_print__199 hl.1 (Nat.le_of_ble_eq_true rfl) (fun H locs hT => ?_)
    refine lv_aload_n hx hb dX13_print__202 rfl (lv_at hl 0 rfl) ?_
    have hT9 := hT
    obtain ⟨ta1, tk1, tn1, tw1, hP, hD, hK, hS, hsb1⟩ := hT9
    refine va_get (D := (dC, dI)) (ci := 14) (v := .ref (p0a 6)) (C := RX13) (T := TX13) (N := 13) hx hb hts i_X13 hown hK hP 0 rfl rfl 5 (by decide) (hts _ qw1618) (fun _ h9 => h9) rfl dX13_print__203 ?_
    refine va_ldcS hx hb hown (zp_st hE 4 _ rfl).2 dX13_print__206 ?_
    refine tx_apS (l := l) (x := ([125] : List Int32)) (b := (0 + ([105, 102, 32] : List Int32).length + bt.length + ([123] : List Int32).length + bx.length + ([125] : List Int32).length + ([101, 108, 115, 101, 123] : List Int32).length + b2.length)) (t0 := t.length) (N := bs.length) ⟨hx, hb, hml, hown, hts⟩ hE hA hT (st9_q (zp_st hE) 4 _ rfl) rfl (fun j _ => rfl) (asc_of (by decide)) (Or.inl (by decide)) (by simp only [List.length_append]; omega) (by omega) hL hR9 dX13_print__208 hl.1 (Nat.le_of_ble_eq_true rfl) (fun H locs hT => ?_)
    refine lv_pop hx hb dX13_print__211 rfl ?_
    refine lv_goto (tgt := 340) hx hb dX13_print__212 (by decide) ?_
    obtain ⟨ta1, tk1, tn1, tw1, hP, hD, hK, hS, hsb1⟩ := hT
    have hbs8 : (t ++ ([105, 102, 32] : List Int32) ++ bt ++ ([123] : List Int32) ++ bx ++ ([125] : List Int32) ++ ([101, 108, 115, 101, 123] : List Int32) ++ b2 ++ ([125] : List Int32)) = t ++ bs := by rw [hbs9]; simp only [List.append_assoc]
    rw [hbs8] at hsb1
    subst hQ
    refine W.widen (k := pcl t.length bs.length) (n := psl t.length bs.length) (Nat.le_trans (Nat.le_of_eq (Nat.zero_add _)) (pcl_m (by omega)).1) (Nat.le_trans (Nat.le_of_eq (Nat.zero_add _)) (pcl_m (by omega)).2) ?_
    exact W.vret hx hb hr (fun u ht hW => ⟨⟨(), rfl, trivial, ta1, tk1, tn1, tw1, hsb1, by rw [ht]; exact hP, va_K.moved hW.alike hK, hD⟩, hS.F ht⟩) hS.2.2 dX13_print__340
  · obtain ⟨h0, h5⟩ := of_decide_eq_true hn
    obtain ⟨v, hv, rfl⟩ := i9_n (k := 3) (by decide) h0 h5
    have hbs9 : bs = ([118, 97, 114, 32, 105] : List Int32) ++ ((mp_d v) ++ (([61, 48, 59, 119, 104, 105, 108, 101, 32, 105] : List Int32) ++ ((mp_d v) ++ (([60] : List Int32) ++ (bo ++ (([123] : List Int32) ++ (bx ++ (([105] : List Int32) ++ ((mp_d v) ++ (([61, 105] : List Int32) ++ ((mp_d v) ++ (([43, 49, 59, 125] : List Int32))))))))))))) := by
      rw [hbs]
      show ([118, 97, 114, 32, 105] : List Int32) ++ ((mp_d (nn (pu_I v))) ++ (([61, 48, 59, 119, 104, 105, 108, 101, 32, 105] : List Int32) ++ ((mp_d (nn (pu_I v))) ++ (([60] : List Int32) ++ (bo ++ (([123] : List Int32) ++ (bx ++ (([105] : List Int32) ++ ((mp_d (nn (pu_I v))) ++ (([61, 105] : List Int32) ++ ((mp_d (nn (pu_I v))) ++ (([43, 49, 59, 125] : List Int32))))))))))))) = _
      rw [pu_nn (by omega)]
    have hN9 : bs.length = ([118, 97, 114, 32, 105] : List Int32).length + ((mp_d v).length + (([61, 48, 59, 119, 104, 105, 108, 101, 32, 105] : List Int32).length + ((mp_d v).length + (([60] : List Int32).length + (bo.length + (([123] : List Int32).length + (bx.length + (([105] : List Int32).length + ((mp_d v).length + (([61, 105] : List Int32).length + ((mp_d v).length + (([43, 49, 59, 125] : List Int32).length)))))))))))) := by rw [hbs9]; simp only [List.length_append]
    refine lv_aload_n hx hb dX13_print__0 rfl (lv_at hl 1 rfl) ?_
    have hT9 := hT
    obtain ⟨ta1, tk1, tn1, tw1, hP, hD, hK, hS, hsb1⟩ := hT9
    obtain ⟨j0, hj0⟩ := List.getElem?_of_mem (fl_mem (L := ([mdO p0a p0w, oJ4 (p0a 6) ta1 tk1 tn1 tw1, Wt] : List va_W)) 2 rfl hm0)
    refine va_get (D := (dC, dI)) (ci := 15) (v := .int 3) (C := RX12) (T := TX12) (N := 6) hx hb hts i_X12 hown hK hP j0 hj0 rfl 0 (by decide) (hts _ qw1594) (fun _ h9 => h9) rfl dX13_print__1 ?_
    refine lv_tableIn (off := 211) (tgt := 215) hx hb dX13_print__4 (by decide) (by decide) rfl (by decide) ?_
    refine lv_aload_n hx hb dX13_print__215 rfl (lv_at hl 0 rfl) ?_
    have hT9 := hT
    obtain ⟨ta1, tk1, tn1, tw1, hP, hD, hK, hS, hsb1⟩ := hT9
    refine va_get (D := (dC, dI)) (ci := 14) (v := .ref (p0a 6)) (C := RX13) (T := TX13) (N := 13) hx hb hts i_X13 hown hK hP 0 rfl rfl 5 (by decide) (hts _ qw1618) (fun _ h9 => h9) rfl dX13_print__216 ?_
    refine va_ldcS hx hb hown (zp_st hE 12 _ rfl).2 dX13_print__219 ?_
    refine tx_apS (l := l) (x := ([118, 97, 114, 32, 105] : List Int32)) (b := 0) (t0 := t.length) (N := bs.length) ⟨hx, hb, hml, hown, hts⟩ hE hA hT (st9_q (zp_st hE) 12 _ rfl) rfl (fun j _ => rfl) (asc_of (by decide)) (Or.inl (by decide)) (Nat.add_zero _).symm (by omega) hL hR9 dX13_print__221 hl.1 (Nat.le_of_ble_eq_true rfl) (fun H locs hT => ?_)
    refine lv_aload_n hx hb dX13_print__224 rfl (lv_at hl 1 rfl) ?_
    have hT9 := hT
    obtain ⟨ta1, tk1, tn1, tw1, hP, hD, hK, hS, hsb1⟩ := hT9
    obtain ⟨j0, hj0⟩ := List.getElem?_of_mem (fl_mem (L := ([mdO p0a p0w, oJ4 (p0a 6) ta1 tk1 tn1 tw1, Wt] : List va_W)) 2 rfl hm0)
    refine va_get (D := (dC, dI)) (ci := 15) (v := .int (pu_I v)) (C := RX12) (T := TX12) (N := 6) hx hb hts i_X12 hown hK hP j0 hj0 rfl 1 (by decide) (hts _ qw1595) (fun _ h9 => h9) rfl dX13_print__225 ?_
    refine tx_apI (l := l) (v := v) (b := (0 + ([118, 97, 114, 32, 105] : List Int32).length)) (t0 := t.length) (N := bs.length) ⟨hx, hb, hml, hown, hts⟩ hE hA hT rfl (by omega) (by simp only [List.length_append]; omega) (by omega) hL hR9 dX13_print__228 hl.1 (Nat.le_of_ble_eq_true rfl) (fun H locs hT => ?_)
    refine va_ldcS hx hb hown (zp_st hE 13 _ rfl).2 dX13_print__231 ?_
    refine tx_apS (l := l) (x := ([61, 48, 59, 119, 104, 105, 108, 101, 32, 105] : List Int32)) (b := (0 + ([118, 97, 114, 32, 105] : List Int32).length + (mp_d v).length)) (t0 := t.length) (N := bs.length) ⟨hx, hb, hml, hown, hts⟩ hE hA hT (st9_q (zp_st hE) 13 _ rfl) rfl (fun j _ => rfl) (asc_of (by decide)) (Or.inl (by decide)) (by simp only [List.length_append]; omega) (by omega) hL hR9 dX13_print__233 hl.1 (Nat.le_of_ble_eq_true rfl) (fun H locs hT => ?_)
    refine lv_aload_n hx hb dX13_print__236 rfl (lv_at hl 1 rfl) ?_
    have hT9 := hT
    obtain ⟨ta1, tk1, tn1, tw1, hP, hD, hK, hS, hsb1⟩ := hT9
    obtain ⟨j0, hj0⟩ := List.getElem?_of_mem (fl_mem (L := ([mdO p0a p0w, oJ4 (p0a 6) ta1 tk1 tn1 tw1, Wt] : List va_W)) 2 rfl hm0)
    refine va_get (D := (dC, dI)) (ci := 15) (v := .int (pu_I v)) (C := RX12) (T := TX12) (N := 6) hx hb hts i_X12 hown hK hP j0 hj0 rfl 1 (by decide) (hts _ qw1595) (fun _ h9 => h9) rfl dX13_print__237 ?_
    refine tx_apI (l := l) (v := v) (b := (0 + ([118, 97, 114, 32, 105] : List Int32).length + (mp_d v).length + ([61, 48, 59, 119, 104, 105, 108, 101, 32, 105] : List Int32).length)) (t0 := t.length) (N := bs.length) ⟨hx, hb, hml, hown, hts⟩ hE hA hT rfl (by omega) (by simp only [List.length_append]; omega) (by omega) hL hR9 dX13_print__240 hl.1 (Nat.le_of_ble_eq_true rfl) (fun H locs hT => ?_)
    refine va_ldcS hx hb hown (zp_st hE 14 _ rfl).2 dX13_print__243 ?_
    refine tx_apS (l := l) (x := ([60] : List Int32)) (b := (0 + ([118, 97, 114, 32, 105] : List Int32).length + (mp_d v).length + ([61, 48, 59, 119, 104, 105, 108, 101, 32, 105] : List Int32).length + (mp_d v).length)) (t0 := t.length) (N := bs.length) ⟨hx, hb, hml, hown, hts⟩ hE hA hT (st9_q (zp_st hE) 14 _ rfl) rfl (fun j _ => rfl) (asc_of (by decide)) (Or.inl (by decide)) (by simp only [List.length_append]; omega) (by omega) hL hR9 dX13_print__245 hl.1 (Nat.le_of_ble_eq_true rfl) (fun H locs hT => ?_)
    refine lv_pop hx hb dX13_print__248 rfl ?_
    refine lv_aload_n hx hb dX13_print__249 rfl (lv_at hl 0 rfl) ?_
    refine lv_aload_n hx hb dX13_print__250 rfl (lv_at hl 1 rfl) ?_
    have hT9 := hT
    obtain ⟨ta1, tk1, tn1, tw1, hP, hD, hK, hS, hsb1⟩ := hT9
    obtain ⟨j0, hj0⟩ := List.getElem?_of_mem (fl_mem (L := ([mdO p0a p0w, oJ4 (p0a 6) ta1 tk1 tn1 tw1, Wt] : List va_W)) 2 rfl hm0)
    refine va_get (D := (dC, dI)) (ci := 15) (v := .ref q1) (C := RX12) (T := TX12) (N := 6) hx hb hts i_X12 hown hK hP j0 hj0 rfl 3 (by decide) (hts _ qw1596) (fun _ h9 => h9) rfl dX13_print__251 ?_
    refine tx_pr (l := l) (b := (0 + ([118, 97, 114, 32, 105] : List Int32).length + (mp_d v).length + ([61, 48, 59, 119, 104, 105, 108, 101, 32, 105] : List Int32).length + (mp_d v).length + ([60] : List Int32).length)) (t0 := t.length) (N := bs.length) ⟨hx, hb, hml, hown, hts⟩ hE hA hT (kX13_pp l aK aV aN aO dOv dTv Wt Tt 1 _ _ hq1) (fun _ _ => cwV 1 hts (gi_V qw1625 qw1622 qw1623 qw1566 (gi_z qw1624)) rfl rfl rfl (by decide +kernel) ⟨Nat.le_trans (m := 40) (Nat.le_of_ble_eq_true rfl) (Nat.le_add_left 40 F9), Nat.le_trans (m := 2000) (Nat.le_of_ble_eq_true rfl) (Nat.le_add_left 2000 L9)⟩) (by simp only [List.length_append]; omega) (by omega) hL hR9.2.2 dX13_print__254 hl.1 (Nat.le_of_ble_eq_true rfl) (fun H locs hT => ?_)
    refine lv_aload_n hx hb dX13_print__257 rfl (lv_at hl 0 rfl) ?_
    have hT9 := hT
    obtain ⟨ta1, tk1, tn1, tw1, hP, hD, hK, hS, hsb1⟩ := hT9
    refine va_get (D := (dC, dI)) (ci := 14) (v := .ref (p0a 6)) (C := RX13) (T := TX13) (N := 13) hx hb hts i_X13 hown hK hP 0 rfl rfl 5 (by decide) (hts _ qw1618) (fun _ h9 => h9) rfl dX13_print__258 ?_
    refine va_ldcS hx hb hown (zp_st hE 10 _ rfl).2 dX13_print__261 ?_
    refine tx_apS (l := l) (x := ([123] : List Int32)) (b := (0 + ([118, 97, 114, 32, 105] : List Int32).length + (mp_d v).length + ([61, 48, 59, 119, 104, 105, 108, 101, 32, 105] : List Int32).length + (mp_d v).length + ([60] : List Int32).length + bo.length)) (t0 := t.length) (N := bs.length) ⟨hx, hb, hml, hown, hts⟩ hE hA hT (st9_q (zp_st hE) 10 _ rfl) rfl (fun j _ => rfl) (asc_of (by decide)) (Or.inl (by decide)) (by simp only [List.length_append]; omega) (by omega) hL hR9 dX13_print__263 hl.1 (Nat.le_of_ble_eq_true rfl) (fun H locs hT => ?_)
    refine lv_pop hx hb dX13_print__266 rfl ?_
    refine lv_aload_n hx hb dX13_print__267 rfl (lv_at hl 0 rfl) ?_
    refine lv_aload_n hx hb dX13_print__268 rfl (lv_at hl 1 rfl) ?_
    have hT9 := hT
    obtain ⟨ta1, tk1, tn1, tw1, hP, hD, hK, hS, hsb1⟩ := hT9
    obtain ⟨j0, hj0⟩ := List.getElem?_of_mem (fl_mem (L := ([mdO p0a p0w, oJ4 (p0a 6) ta1 tk1 tn1 tw1, Wt] : List va_W)) 2 rfl hm0)
    refine va_get (D := (dC, dI)) (ci := 15) (v := .ref a1) (C := RX12) (T := TX12) (N := 6) hx hb hts i_X12 hown hK hP j0 hj0 rfl 4 (by decide) (hts _ qw1602) (fun _ h9 => h9) rfl dX13_print__269 ?_
    refine tx_pr (l := l) (b := (0 + ([118, 97, 114, 32, 105] : List Int32).length + (mp_d v).length + ([61, 48, 59, 119, 104, 105, 108, 101, 32, 105] : List Int32).length + (mp_d v).length + ([60] : List Int32).length + bo.length + ([123] : List Int32).length)) (t0 := t.length) (N := bs.length) ⟨hx, hb, hml, hown, hts⟩ hE hA hT (ihA _ _ _ ha1) (fun _ _ => cwV 1 hts (gi_V qw1631 qw1628 qw1629 qw1566 (gi_z qw1630)) rfl rfl rfl (by decide +kernel) ⟨(show F9 + 1 ≤ F9 + 40 from by omega), (show 8 + (6 + 11) + L9 ≤ L9 + 2000 from by omega)⟩) (by simp only [List.length_append]; omega) (by omega) hL hR9.2.2 dX13_print__272 hl.1 (Nat.le_of_ble_eq_true rfl) (fun H locs hT => ?_)
    refine lv_aload_n hx hb dX13_print__275 rfl (lv_at hl 0 rfl) ?_
    have hT9 := hT
    obtain ⟨ta1, tk1, tn1, tw1, hP, hD, hK, hS, hsb1⟩ := hT9
    refine va_get (D := (dC, dI)) (ci := 14) (v := .ref (p0a 6)) (C := RX13) (T := TX13) (N := 13) hx hb hts i_X13 hown hK hP 0 rfl rfl 5 (by decide) (hts _ qw1618) (fun _ h9 => h9) rfl dX13_print__276 ?_
    refine va_ldcS hx hb hown (zp_st hE 15 _ rfl).2 dX13_print__279 ?_
    refine tx_apS (l := l) (x := ([105] : List Int32)) (b := (0 + ([118, 97, 114, 32, 105] : List Int32).length + (mp_d v).length + ([61, 48, 59, 119, 104, 105, 108, 101, 32, 105] : List Int32).length + (mp_d v).length + ([60] : List Int32).length + bo.length + ([123] : List Int32).length + bx.length)) (t0 := t.length) (N := bs.length) ⟨hx, hb, hml, hown, hts⟩ hE hA hT (st9_q (zp_st hE) 15 _ rfl) rfl (fun j _ => rfl) (asc_of (by decide)) (Or.inl (by decide)) (by simp only [List.length_append]; omega) (by omega) hL hR9 dX13_print__281 hl.1 (Nat.le_of_ble_eq_true rfl) (fun H locs hT => ?_)
    refine lv_aload_n hx hb dX13_print__284 rfl (lv_at hl 1 rfl) ?_
    have hT9 := hT
    obtain ⟨ta1, tk1, tn1, tw1, hP, hD, hK, hS, hsb1⟩ := hT9
    obtain ⟨j0, hj0⟩ := List.getElem?_of_mem (fl_mem (L := ([mdO p0a p0w, oJ4 (p0a 6) ta1 tk1 tn1 tw1, Wt] : List va_W)) 2 rfl hm0)
    refine va_get (D := (dC, dI)) (ci := 15) (v := .int (pu_I v)) (C := RX12) (T := TX12) (N := 6) hx hb hts i_X12 hown hK hP j0 hj0 rfl 1 (by decide) (hts _ qw1595) (fun _ h9 => h9) rfl dX13_print__285 ?_
    refine tx_apI (l := l) (v := v) (b := (0 + ([118, 97, 114, 32, 105] : List Int32).length + (mp_d v).length + ([61, 48, 59, 119, 104, 105, 108, 101, 32, 105] : List Int32).length + (mp_d v).length + ([60] : List Int32).length + bo.length + ([123] : List Int32).length + bx.length + ([105] : List Int32).length)) (t0 := t.length) (N := bs.length) ⟨hx, hb, hml, hown, hts⟩ hE hA hT rfl (by omega) (by simp only [List.length_append]; omega) (by omega) hL hR9 dX13_print__288 hl.1 (Nat.le_of_ble_eq_true rfl) (fun H locs hT => ?_)
    refine va_ldcS hx hb hown (zp_st hE 16 _ rfl).2 dX13_print__291 ?_
    refine tx_apS (l := l) (x := ([61, 105] : List Int32)) (b := (0 + ([118, 97, 114, 32, 105] : List Int32).length + (mp_d v).length + ([61, 48, 59, 119, 104, 105, 108, 101, 32, 105] : List Int32).length + (mp_d v).length + ([60] : List Int32).length + bo.length + ([123] : List Int32).length + bx.length + ([105] : List Int32).length + (mp_d v).length)) (t0 := t.length) (N := bs.length) ⟨hx, hb, hml, hown, hts⟩ hE hA hT (st9_q (zp_st hE) 16 _ rfl) rfl (fun j _ => rfl) (asc_of (by decide)) (Or.inl (by decide)) (by simp only [List.length_append]; omega) (by omega) hL hR9 dX13_print__293 hl.1 (Nat.le_of_ble_eq_true rfl) (fun H locs hT => ?_)
    refine lv_aload_n hx hb dX13_print__296 rfl (lv_at hl 1 rfl) ?_
    have hT9 := hT
    obtain ⟨ta1, tk1, tn1, tw1, hP, hD, hK, hS, hsb1⟩ := hT9
    obtain ⟨j0, hj0⟩ := List.getElem?_of_mem (fl_mem (L := ([mdO p0a p0w, oJ4 (p0a 6) ta1 tk1 tn1 tw1, Wt] : List va_W)) 2 rfl hm0)
    refine va_get (D := (dC, dI)) (ci := 15) (v := .int (pu_I v)) (C := RX12) (T := TX12) (N := 6) hx hb hts i_X12 hown hK hP j0 hj0 rfl 1 (by decide) (hts _ qw1595) (fun _ h9 => h9) rfl dX13_print__297 ?_
    refine tx_apI (l := l) (v := v) (b := (0 + ([118, 97, 114, 32, 105] : List Int32).length + (mp_d v).length + ([61, 48, 59, 119, 104, 105, 108, 101, 32, 105] : List Int32).length + (mp_d v).length + ([60] : List Int32).length + bo.length + ([123] : List Int32).length + bx.length + ([105] : List Int32).length + (mp_d v).length + ([61, 105] : List Int32).length)) (t0 := t.length) (N := bs.length) ⟨hx, hb, hml, hown, hts⟩ hE hA hT rfl (by omega) (by simp only [List.length_append]; omega) (by omega) hL hR9 dX13_print__300 hl.1 (Nat.le_of_ble_eq_true rfl) (fun H locs hT => ?_)
    refine va_ldcS hx hb hown (zp_st hE 17 _ rfl).2 dX13_print__303 ?_
    refine tx_apS (l := l) (x := ([43, 49, 59, 125] : List Int32)) (b := (0 + ([118, 97, 114, 32, 105] : List Int32).length + (mp_d v).length + ([61, 48, 59, 119, 104, 105, 108, 101, 32, 105] : List Int32).length + (mp_d v).length + ([60] : List Int32).length + bo.length + ([123] : List Int32).length + bx.length + ([105] : List Int32).length + (mp_d v).length + ([61, 105] : List Int32).length + (mp_d v).length)) (t0 := t.length) (N := bs.length) ⟨hx, hb, hml, hown, hts⟩ hE hA hT (st9_q (zp_st hE) 17 _ rfl) rfl (fun j _ => rfl) (asc_of (by decide)) (Or.inl (by decide)) (by simp only [List.length_append]; omega) (by omega) hL hR9 dX13_print__305 hl.1 (Nat.le_of_ble_eq_true rfl) (fun H locs hT => ?_)
    refine lv_pop hx hb dX13_print__308 rfl ?_
    refine lv_goto (tgt := 340) hx hb dX13_print__309 (by decide) ?_
    obtain ⟨ta1, tk1, tn1, tw1, hP, hD, hK, hS, hsb1⟩ := hT
    have hbs8 : (t ++ ([118, 97, 114, 32, 105] : List Int32) ++ (mp_d v) ++ ([61, 48, 59, 119, 104, 105, 108, 101, 32, 105] : List Int32) ++ (mp_d v) ++ ([60] : List Int32) ++ bo ++ ([123] : List Int32) ++ bx ++ ([105] : List Int32) ++ (mp_d v) ++ ([61, 105] : List Int32) ++ (mp_d v) ++ ([43, 49, 59, 125] : List Int32)) = t ++ bs := by rw [hbs9]; simp only [List.append_assoc]
    rw [hbs8] at hsb1
    subst hQ
    refine W.widen (k := pcl t.length bs.length) (n := psl t.length bs.length) (Nat.le_trans (Nat.le_of_eq (Nat.zero_add _)) (pcl_m (by omega)).1) (Nat.le_trans (Nat.le_of_eq (Nat.zero_add _)) (pcl_m (by omega)).2) ?_
    exact W.vret hx hb hr (fun u ht hW => ⟨⟨(), rfl, trivial, ta1, tk1, tn1, tw1, hsb1, by rw [ht]; exact hP, va_K.moved hW.alike hK, hD⟩, hS.F ht⟩) hS.2.2 dX13_print__340
  · have hbs9 : bs = ([114, 101, 116, 117, 114, 110, 32] : List Int32) ++ (bt ++ (([59] : List Int32))) := by
      rw [hbs]
      show ([114, 101, 116, 117, 114, 110, 32] : List Int32) ++ (bt ++ (([59] : List Int32))) = _
      simp only [List.append_assoc]
    have hN9 : bs.length = ([114, 101, 116, 117, 114, 110, 32] : List Int32).length + (bt.length + (([59] : List Int32).length)) := by rw [hbs9]; simp only [List.length_append]
    refine lv_aload_n hx hb dX13_print__0 rfl (lv_at hl 1 rfl) ?_
    have hT9 := hT
    obtain ⟨ta1, tk1, tn1, tw1, hP, hD, hK, hS, hsb1⟩ := hT9
    obtain ⟨j0, hj0⟩ := List.getElem?_of_mem (fl_mem (L := ([mdO p0a p0w, oJ4 (p0a 6) ta1 tk1 tn1 tw1, Wt] : List va_W)) 2 rfl hm0)
    refine va_get (D := (dC, dI)) (ci := 15) (v := .int 4) (C := RX12) (T := TX12) (N := 6) hx hb hts i_X12 hown hK hP j0 hj0 rfl 0 (by decide) (hts _ qw1594) (fun _ h9 => h9) rfl dX13_print__1 ?_
    refine lv_tableOut (tgt := 312) hx hb dX13_print__4 (by decide) (by decide) ?_
    refine lv_aload_n hx hb dX13_print__312 rfl (lv_at hl 0 rfl) ?_
    have hT9 := hT
    obtain ⟨ta1, tk1, tn1, tw1, hP, hD, hK, hS, hsb1⟩ := hT9
    refine va_get (D := (dC, dI)) (ci := 14) (v := .ref (p0a 6)) (C := RX13) (T := TX13) (N := 13) hx hb hts i_X13 hown hK hP 0 rfl rfl 5 (by decide) (hts _ qw1618) (fun _ h9 => h9) rfl dX13_print__313 ?_
    refine va_ldcS hx hb hown (zp_st hE 18 _ rfl).2 dX13_print__316 ?_
    refine tx_apS (l := l) (x := ([114, 101, 116, 117, 114, 110, 32] : List Int32)) (b := 0) (t0 := t.length) (N := bs.length) ⟨hx, hb, hml, hown, hts⟩ hE hA hT (st9_q (zp_st hE) 18 _ rfl) rfl (fun j _ => rfl) (asc_of (by decide)) (Or.inl (by decide)) (Nat.add_zero _).symm (by omega) hL hR9 dX13_print__318 hl.1 (Nat.le_of_ble_eq_true rfl) (fun H locs hT => ?_)
    refine lv_pop hx hb dX13_print__321 rfl ?_
    refine lv_aload_n hx hb dX13_print__322 rfl (lv_at hl 0 rfl) ?_
    refine lv_aload_n hx hb dX13_print__323 rfl (lv_at hl 1 rfl) ?_
    have hT9 := hT
    obtain ⟨ta1, tk1, tn1, tw1, hP, hD, hK, hS, hsb1⟩ := hT9
    obtain ⟨j0, hj0⟩ := List.getElem?_of_mem (fl_mem (L := ([mdO p0a p0w, oJ4 (p0a 6) ta1 tk1 tn1 tw1, Wt] : List va_W)) 2 rfl hm0)
    refine va_get (D := (dC, dI)) (ci := 15) (v := .ref t1) (C := RX12) (T := TX12) (N := 6) hx hb hts i_X12 hown hK hP j0 hj0 rfl 2 (by decide) (hts _ qw1593) (fun _ h9 => h9) rfl dX13_print__324 ?_
    refine tx_pr (l := l) (b := (0 + ([114, 101, 116, 117, 114, 110, 32] : List Int32).length)) (t0 := t.length) (N := bs.length) ⟨hx, hb, hml, hown, hts⟩ hE hA hT (kX13_pp l aK aV aN aO dOv dTv Wt Tt 3 _ _ ht1) (fun _ _ => cwV 1 hts (gi_V qw1625 qw1622 qw1623 qw1566 (gi_z qw1624)) rfl rfl rfl (by decide +kernel) ⟨Nat.le_trans (m := 40) (Nat.le_of_ble_eq_true rfl) (Nat.le_add_left 40 F9), Nat.le_trans (m := 2000) (Nat.le_of_ble_eq_true rfl) (Nat.le_add_left 2000 L9)⟩) (by simp only [List.length_append]; omega) (by omega) hL hR9.2.2 dX13_print__327 hl.1 (Nat.le_of_ble_eq_true rfl) (fun H locs hT => ?_)
    refine lv_aload_n hx hb dX13_print__330 rfl (lv_at hl 0 rfl) ?_
    have hT9 := hT
    obtain ⟨ta1, tk1, tn1, tw1, hP, hD, hK, hS, hsb1⟩ := hT9
    refine va_get (D := (dC, dI)) (ci := 14) (v := .ref (p0a 6)) (C := RX13) (T := TX13) (N := 13) hx hb hts i_X13 hown hK hP 0 rfl rfl 5 (by decide) (hts _ qw1618) (fun _ h9 => h9) rfl dX13_print__331 ?_
    refine va_ldcS hx hb hown (zp_st hE 6 _ rfl).2 dX13_print__334 ?_
    refine tx_apS (l := l) (x := ([59] : List Int32)) (b := (0 + ([114, 101, 116, 117, 114, 110, 32] : List Int32).length + bt.length)) (t0 := t.length) (N := bs.length) ⟨hx, hb, hml, hown, hts⟩ hE hA hT (st9_q (zp_st hE) 6 _ rfl) rfl (fun j _ => rfl) (asc_of (by decide)) (Or.inl (by decide)) (by simp only [List.length_append]; omega) (by omega) hL hR9 dX13_print__336 hl.1 (Nat.le_of_ble_eq_true rfl) (fun H locs hT => ?_)
    refine lv_pop hx hb dX13_print__339 rfl ?_
    obtain ⟨ta1, tk1, tn1, tw1, hP, hD, hK, hS, hsb1⟩ := hT
    have hbs8 : (t ++ ([114, 101, 116, 117, 114, 110, 32] : List Int32) ++ bt ++ ([59] : List Int32)) = t ++ bs := by rw [hbs9]; simp only [List.append_assoc]
    rw [hbs8] at hsb1
    subst hQ
    refine W.widen (k := pcl t.length bs.length) (n := psl t.length bs.length) (Nat.le_trans (Nat.le_of_eq (Nat.zero_add _)) (pcl_m (by omega)).1) (Nat.le_trans (Nat.le_of_eq (Nat.zero_add _)) (pcl_m (by omega)).2) ?_
    exact W.vret hx hb hr (fun u ht hW => ⟨⟨(), rfl, trivial, ta1, tk1, tn1, tw1, hsb1, by rw [ht]; exact hP, va_K.moved hW.alike hK, hD⟩, hS.F ht⟩) hS.2.2 dX13_print__340
