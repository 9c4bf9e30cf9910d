theorem dX13_lines_0 : decode cX13_lines 0 = .ok (.iload_n 2, 1) := by decide +kernel
theorem dX13_lines_1 : decode cX13_lines 1 = .ok (.anewarray 79, 3) := by decide +kernel
theorem dX13_lines_4 : decode cX13_lines 4 = .ok (.astore_n 3, 1) := by decide +kernel
theorem dX13_lines_5 : decode cX13_lines 5 = .ok (.iconst 0, 1) := by decide +kernel
theorem dX13_lines_6 : decode cX13_lines 6 = .ok (.istore 4, 2) := by decide +kernel
theorem dX13_lines_8 : decode cX13_lines 8 = .ok (.iload 4, 2) := by decide +kernel
theorem dX13_lines_10 : decode cX13_lines 10 = .ok (.iload_n 2, 1) := by decide +kernel
theorem dX13_lines_11 : decode cX13_lines 11 = .ok (.if_icmp .ge 18, 3) := by decide +kernel
theorem dX13_lines_14 : decode cX13_lines 14 = .ok (.aload_n 3, 1) := by decide +kernel
theorem dX13_lines_15 : decode cX13_lines 15 = .ok (.iload 4, 2) := by decide +kernel
theorem dX13_lines_17 : decode cX13_lines 17 = .ok (.aload_n 0, 1) := by decide +kernel
theorem dX13_lines_18 : decode cX13_lines 18 = .ok (.iload_n 1, 1) := by decide +kernel
theorem dX13_lines_19 : decode cX13_lines 19 = .ok (.invokevirtual 81, 3) := by decide +kernel
theorem dX13_lines_22 : decode cX13_lines 22 = .ok (.aastore, 1) := by decide +kernel
theorem dX13_lines_23 : decode cX13_lines 23 = .ok (.iinc 4 1, 3) := by decide +kernel
theorem dX13_lines_26 : decode cX13_lines 26 = .ok (.goto (-18), 3) := by decide +kernel
theorem dX13_lines_29 : decode cX13_lines 29 = .ok (.aload_n 3, 1) := by decide +kernel
theorem dX13_lines_30 : decode cX13_lines 30 = .ok (.areturn, 1) := by decide +kernel
theorem qw1604 : Cond.code yX13_line cX13_line 5 (Option.some (Jvm.ClassFile.FieldType.object "GearboxLaw$Line")) ∈ gw := mq_10 (i := 125) rfl rfl
theorem qw1605 : Cond.methodLink RX13 81 yX13_line ∈ gw := mq_10 (i := 122) rfl rfl
theorem qw1606 : Cond.instanceMethod yX13_line ∈ gw := mq_10 (i := 123) rfl rfl
theorem qw1607 : Cond.selects RX13 yX13_line yX13_line ∈ gw := mq_10 (i := 124) rfl rfl
def fLs (kk : ST → Int32 → Option (List Int32 × ST)) : Nat → ST → Int32 → Option (List Int32 × ST)
  | 0, w, _ => some ([], w)
  | n + 1, w, deep => (kk w deep).bind fun (o : List Int32 × ST) => (fLs kk n o.2 deep).bind fun (o2 : List Int32 × ST) => some (o.1 ++ o2.1, o2.2)
theorem rw9_c {P : Nat → List Int32 → Prop} {f f' : Nat → Option Nat} : ∀ {n : Nat} {bs : List Int32}, (∀ j, j < n → f j = f' j) → rw9 P f n bs → rw9 P f' n bs := by
  intro n
  induction n with
  | zero => intro bs _ h; exact h
  | succ n ih => intro bs hf h; obtain ⟨b1, b2, r, q1, q2, q3, q4⟩ := h; exact ⟨b1, b2, r, ih (fun j hj => hf j (Nat.lt_succ_of_lt hj)) q1, (hf n (Nat.lt_succ_self n)).symm.trans q2, q3, q4⟩
theorem lh9_at {W : va_W} {T : List (ClassId × FieldType)} {d r : Nat} {bs : List Int32} (h : lh9 W T d r bs) : ∃ vs, (r, (.inr (15, vs) : va_E)) ∈ W := by
  cases d with
  | zero => exact h.elim
  | succ d =>
    rcases h with ⟨n, t, o, a, c, bt, h1, _⟩ | ⟨n, t, q, a, c, bt, bo, h1, _⟩ | ⟨n, t, o, a, c, m, bt, bx, h1, _⟩ | ⟨n, t, o, a, c, m, m2, bt, bx, b2, h1, _⟩ | ⟨n, t, q, a, c, m, bo, bx, h1, _⟩ | ⟨n, t, o, a, c, bt, h1, _⟩ <;> exact ⟨_, h1⟩
theorem fl_t4 {α : Type} {a b c d : List α} : List.flatten [a, b, List.flatten [c, d]] = List.flatten [a, b, c, d] := by simp
set_option maxHeartbeats 16000000 in
set_option maxRecDepth 100000 in
theorem kX13_lines {zs : ZS} (l : Launch) (kk_line : ST → Int32 → Option (List Int32 × ST)) (F9 L9 C9 D9 : Nat) (xv xm : Nat) (xf : RI) (hkk_line : ∀ {zs : ZS} (dC : Nat → ClassId) (dI : Nat → Nat → Nat) (p0a : Nat → Nat) (p0w : ST) (p1 : Int32) (sz : Nat) (o : List Int32 × ST) (hrun : kk_line p0w p1 = some o), Met l yX13_line (wz yX13_line cX13_line 5 (Option.some (Jvm.ClassFile.FieldType.object "GearboxLaw$Line"))) ({ frames := F9, cells := C9, slots := 4 * C9, locals := L9 } : Room) (va_Pc [.ref (p0a 0), .int p1] (PRE (zA zs (xq9 xv xm xf)) dC dI (List.flatten ([[((p0a 0), .inr (14, [.ref xv, .int (p0w 0 1), .int (p0w 0 2), .int (p0w 0 3), .int (p0w 0 4), .ref (p0a 6), .null, .ref (p0a 8), .ref (p0a 9), .int (p0w 0 9), .int (p0w 0 10), .int (p0w 0 11), .int (p0w 0 12)]))]] : List va_W)) (List.flatten ([[]] : List (List (ClassId × FieldType)))) sz)) (va_Qr (fun (_ : Unit) => True) (fun _ ra t => ∃ (wt : va_W) (tt : List (ClassId × FieldType)), lh9 wt tt D9 ra o.1 ∧ POST dC dI (List.flatten ([[((p0a 0), .inr (14, [.ref xv, .int (o.2 0 1), .int (o.2 0 2), .int (o.2 0 3), .int (o.2 0 4), .ref (p0a 6), .null, .ref (p0a 8), .ref (p0a 9), .int (o.2 0 9), .int (o.2 0 10), .int (o.2 0 11), .int (o.2 0 12)]))], wt] : List va_W)) (List.flatten ([[], tt] : List (List (ClassId × FieldType)))) (va_A (List.flatten ([[((p0a 0), .inr (14, [.ref xv, .int (p0w 0 1), .int (p0w 0 2), .int (p0w 0 3), .int (p0w 0 4), .ref (p0a 6), .null, .ref (p0a 8), .ref (p0a 9), .int (p0w 0 9), .int (p0w 0 10), .int (p0w 0 11), .int (p0w 0 12)]))]] : List va_W)) sz) t) (va_A (List.flatten ([[((p0a 0), .inr (14, [.ref xv, .int (p0w 0 1), .int (p0w 0 2), .int (p0w 0 3), .int (p0w 0 4), .ref (p0a 6), .null, .ref (p0a 8), .ref (p0a 9), .int (p0w 0 9), .int (p0w 0 10), .int (p0w 0 11), .int (p0w 0 12)]))]] : List va_W)) sz)) C9 (4 * C9) (va_A (List.flatten ([[((p0a 0), .inr (14, [.ref xv, .int (p0w 0 1), .int (p0w 0 2), .int (p0w 0 3), .int (p0w 0 4), .ref (p0a 6), .null, .ref (p0a 8), .ref (p0a 9), .int (p0w 0 9), .int (p0w 0 10), .int (p0w 0 11), .int (p0w 0 12)]))]] : List va_W)) sz)) (dC : Nat → ClassId) (dI : Nat → Nat → Nat) (p0a : Nat → Nat) (p0w : ST) (p1 p2 : Int32) (M9 : Nat) (hM : M9 ≤ 6) (hm : ixb p2 (M9 + 1) = true) (sz : Nat) (o : List Int32 × ST) (hrun : fLs kk_line (nn p2) p0w p1 = some o) : Met l yX13_lines (wz yX13_lines cX13_lines 5 (Option.some (Jvm.ClassFile.FieldType.array (Jvm.ClassFile.FieldType.object "GearboxLaw$Line")))) ({ frames := F9 + 8, cells := 1 + M9 * (C9 + 1), slots := 4 * (1 + M9 * (C9 + 1)), locals := L9 + 400 } : Room) (va_Pc [.ref (p0a 0), .int p1, .int p2] (PRE (zA zs (xq9 xv xm xf)) dC dI (List.flatten ([[((p0a 0), .inr (14, [.ref xv, .int (p0w 0 1), .int (p0w 0 2), .int (p0w 0 3), .int (p0w 0 4), .ref (p0a 6), .null, .ref (p0a 8), .ref (p0a 9), .int (p0w 0 9), .int (p0w 0 10), .int (p0w 0 11), .int (p0w 0 12)]))]] : List va_W)) (List.flatten ([[]] : List (List (ClassId × FieldType)))) sz)) (va_Qr (fun (_ : Unit) => True) (fun _ ra t => ∃ (wt : va_W) (tt : List (ClassId × FieldType)), ar9 wt tt (lh9 wt tt D9) ra (nn p2) o.1 ∧ POST dC dI (List.flatten ([[((p0a 0), .inr (14, [.ref xv, .int (o.2 0 1), .int (o.2 0 2), .int (o.2 0 3), .int (o.2 0 4), .ref (p0a 6), .null, .ref (p0a 8), .ref (p0a 9), .int (o.2 0 9), .int (o.2 0 10), .int (o.2 0 11), .int (o.2 0 12)]))], wt] : List va_W)) (List.flatten ([[], tt] : List (List (ClassId × FieldType)))) (va_A (List.flatten ([[((p0a 0), .inr (14, [.ref xv, .int (p0w 0 1), .int (p0w 0 2), .int (p0w 0 3), .int (p0w 0 4), .ref (p0a 6), .null, .ref (p0a 8), .ref (p0a 9), .int (p0w 0 9), .int (p0w 0 10), .int (p0w 0 11), .int (p0w 0 12)]))]] : List va_W)) sz) t) (va_A (List.flatten ([[((p0a 0), .inr (14, [.ref xv, .int (p0w 0 1), .int (p0w 0 2), .int (p0w 0 3), .int (p0w 0 4), .ref (p0a 6), .null, .ref (p0a 8), .ref (p0a 9), .int (p0w 0 9), .int (p0w 0 10), .int (p0w 0 11), .int (p0w 0 12)]))]] : List va_W)) sz)) (1 + M9 * (C9 + 1)) (4 * (1 + M9 * (C9 + 1))) (va_A (List.flatten ([[((p0a 0), .inr (14, [.ref xv, .int (p0w 0 1), .int (p0w 0 2), .int (p0w 0 3), .int (p0w 0 4), .ref (p0a 6), .null, .ref (p0a 8), .ref (p0a 9), .int (p0w 0 9), .int (p0w 0 10), .int (p0w 0 11), .int (p0w 0 12)]))]] : List va_W)) sz) := by
  refine Met.ofW (cc := cX13_lines) (maxL := 5) (ret := (Option.some (Jvm.ClassFile.FieldType.array (Jvm.ClassFile.FieldType.object "GearboxLaw$Line")))) (by decide) rfl ?_
  intro p e s m args below meth c s₁ B hml hv
  obtain ⟨rfl, hsz, hP, hK, hD0, hE⟩ := hv
  have hx := B.exec
  have hb := B.bytes
  have hr := B.returns
  have hts0 := atoms_spec (ws := wz yX13_lines cX13_lines 5 (Option.some (Jvm.ClassFile.FieldType.array (Jvm.ClassFile.FieldType.object "GearboxLaw$Line")))) B.pre
  have hts : ∀ w ∈ gw, w.before _ s = true := fun w h => hts0 w (List.mem_cons_of_mem _ h)
  have hown : s.vm.findClass RX13 = some m.cls := findClass_of_methodNamed B.named
  subst hsz
  have hD := hD0.self (sz := s.heap.size)
  refine gQ9 ?_
  intro Q hQ
  generalize hAe : va_A (List.flatten ([[((p0a 0), .inr (14, [.ref xv, .int (p0w 0 1), .int (p0w 0 2), .int (p0w 0 3), .int (p0w 0 4), .ref (p0a 6), .null, .ref (p0a 8), .ref (p0a 9), .int (p0w 0 9), .int (p0w 0 10), .int (p0w 0 11), .int (p0w 0 12)]))]] : List va_W)) s.heap.size = A at hD hE hQ
  have hA : ∀ q : Nat, s.heap.size ≤ q → A q := fun q h => by rw [← hAe]; exact Or.inr h
  have hro := ENV.ex hE
  have hro_x := hro.2
  replace hro := hro.1
  have hS : va_S A s.heap s.heap [] := va_S.rf
  have hP : va_P (dC, dI) cls (List.flatten ([[((p0a 0), .inr (14, [.ref xv, .int (p0w 0 1), .int (p0w 0 2), .int (p0w 0 3), .int (p0w 0 4), .ref (p0a 6), .null, .ref (p0a 8), .ref (p0a 9), .int (p0w 0 9), .int (p0w 0 10), .int (p0w 0 11), .int (p0w 0 12)]))]] : List va_W)) s.heap := hP
  have hl := lv_entry ([.ref (p0a 0), .int p1, .int p2]) (n := 5) (Nat.le_of_ble_eq_true rfl)
  rw [lg_entry_eq]
  generalize (lg_sl ([.ref (p0a 0), .int p1, .int p2]) ++ List.replicate (5 - (lg_sl ([.ref (p0a 0), .int p1, .int p2])).length) Slot.unset).toArray = ls at hl ⊢
  have hl : lv_has ls 5 [(0, .ref (p0a 0)), (1, .int p1), (2, .int p2)] := hl
  obtain ⟨H, hHe⟩ : ∃ H, H = s.heap := ⟨_, rfl⟩
  obtain ⟨locs, hle⟩ : ∃ locs : List Loc, locs = [] := ⟨_, rfl⟩
  rw [← hHe] at hP
  have hS : va_S A s.heap H locs := by rw [hHe, hle]; exact hS
  show W p l e ({ frames := F9 + 8, cells := 1 + M9 * (C9 + 1), slots := 4 * (1 + M9 * (C9 + 1)), locals := L9 + 400 } : Room) s m ([.ref (p0a 0), .int p1, .int p2] : List Value).toArray below meth c s.heap [] 0 0 Q (F0 m 0 ls [])
  rw [← hle]
  refine wH9 hHe ?_
  have hmi := of_decide_eq_true hm
  have hn0 : ¬ p2 < 0 := by rw [Int32.not_lt, Int32.le_iff_toInt_le]; exact hmi.1
  have hp2 := pu_of hn0
  have hN : nn p2 ≤ M9 := by have h8 := ixb_lt hm; exact Nat.le_of_lt_succ h8
  have hMC : M9 * (C9 + 1) = M9 * C9 + M9 := Nat.mul_succ M9 C9
  have hNM : nn p2 * C9 ≤ M9 * C9 := Nat.mul_le_mul_right _ hN
  refine lv_iload_n hx hb dX13_lines_0 rfl (lv_at hl 2 rfl) ?_
  refine va_newq hx hb hown (hts _ qw1584) (hE.2.1 _ (List.mem_append_right _ (tbl_10 (i := 121) rfl))) hK hP hD hS hA (n := p2) (N' := nn p2) hn0 rfl (by omega) (show 0 + 1 ≤ 1 + M9 * (C9 + 1) from by omega) (show 0 + nn p2 ≤ 4 * (1 + M9 * (C9 + 1)) from by omega) dX13_lines_1 (fun q1 c1 H hK hP hD hS => ?_)
  replace hP := vP_new hP
  replace hD := vD_new hD
  replace hK := vK_new hK
  have hP : va_P (dC, dI) cls (List.flatten ([[(q1, arE c1 (nn p2) (fun _ => none))], [((p0a 0), .inr (14, [.ref xv, .int (p0w 0 1), .int (p0w 0 2), .int (p0w 0 3), .int (p0w 0 4), .ref (p0a 6), .null, .ref (p0a 8), .ref (p0a 9), .int (p0w 0 9), .int (p0w 0 10), .int (p0w 0 11), .int (p0w 0 12)]))], []] : List va_W)) H := hP
  have hD : va_D A (List.flatten ([[(q1, arE c1 (nn p2) (fun _ => none))], [((p0a 0), .inr (14, [.ref xv, .int (p0w 0 1), .int (p0w 0 2), .int (p0w 0 3), .int (p0w 0 4), .ref (p0a 6), .null, .ref (p0a 8), .ref (p0a 9), .int (p0w 0 9), .int (p0w 0 10), .int (p0w 0 11), .int (p0w 0 12)]))], []] : List va_W)) := hD
  have hK : va_K (dC, dI) cls (List.flatten ([[(c1, FieldType.object RX12)], [], []] : List (List (ClassId × FieldType)))) s := hK
  refine W.widen (k := 1 + 0 * C9) (n := 4 * (1 + 0 * C9) + nn p2) (by omega) (by omega) ?_
  refine lv_astore_n (lv' := [(3, .ref q1), (0, .ref (p0a 0)), (1, .int p1), (2, .int p2)]) hx hb dX13_lines_4 rfl hl (by decide) rfl (fun ls hl => ?_)
  refine lv_iconst (v := 0) hx hb dX13_lines_5 (by decide) ?_
  refine lv_istore (lv' := [(4, .int 0), (3, .ref q1), (0, .ref (p0a 0)), (1, .int p1), (2, .int p2)]) hx hb dX13_lines_6 hl (by decide) rfl (fun ls hl => ?_)
  have loop : ∀ (R I : Nat) (w : ST) (f : Nat → Option Nat) (wt : va_W) (tt : List (ClassId × FieldType)) (bs : List Int32) (o1 : List Int32 × ST) (H : Heap) (locs : List Loc) (ls : Array Slot), I + R = nn p2 → fLs kk_line R w p1 = some o1 → rw9 (lh9 wt tt D9) f I bs → (bs ++ o1.1, o1.2) = o → va_P (dC, dI) cls (List.flatten ([[(q1, arE c1 (nn p2) f)], [((p0a 0), .inr (14, [.ref xv, .int (w 0 1), .int (w 0 2), .int (w 0 3), .int (w 0 4), .ref (p0a 6), .null, .ref (p0a 8), .ref (p0a 9), .int (w 0 9), .int (w 0 10), .int (w 0 11), .int (w 0 12)]))], wt] : List va_W)) H → va_D A (List.flatten ([[(q1, arE c1 (nn p2) f)], [((p0a 0), .inr (14, [.ref xv, .int (w 0 1), .int (w 0 2), .int (w 0 3), .int (w 0 4), .ref (p0a 6), .null, .ref (p0a 8), .ref (p0a 9), .int (w 0 9), .int (w 0 10), .int (w 0 11), .int (w 0 12)]))], wt] : List va_W)) → va_K (dC, dI) cls (List.flatten ([[(c1, FieldType.object RX12)], [], tt] : List (List (ClassId × FieldType)))) s → va_S A s.heap H locs → lv_has ls 5 [(4, .int (Int32.ofNat I)), (3, .ref q1), (0, .ref (p0a 0)), (1, .int p1), (2, .int p2)] → W p l e ({ frames := F9 + 8, cells := 1 + M9 * (C9 + 1), slots := 4 * (1 + M9 * (C9 + 1)), locals := L9 + 400 } : Room) s m ([.ref (p0a 0), .int p1, .int p2] : List Value).toArray below meth c H locs (1 + I * C9) (4 * (1 + I * C9) + nn p2) Q (F0 m 8 ls []) := by
    intro R
    induction R with
    | zero =>
      intro I w f wt tt bs o1 H locs ls hI hf hrw ho hP hD hK hS hl
      obtain rfl : I = nn p2 := hI
      obtain rfl : ([], w) = o1 := Option.some.inj hf
      have hc : p2 ≤ Int32.ofNat (nn p2) := by have h9 : Int32.ofNat (nn p2) = p2 := hp2.symm; rw [h9]; exact Int32.le_refl _
      refine lv_iload hx hb dX13_lines_8 (lv_at hl 0 rfl) ?_
      refine lv_iload_n hx hb dX13_lines_10 rfl (lv_at hl 4 rfl) ?_
      refine lv_icmp_ge (tgt := 29) hx hb dX13_lines_11 (by decide) (fun _ => ?_) (fun c => absurd hc c)
      refine lv_aload_n hx hb dX13_lines_29 rfl (lv_at hl 1 rfl) ?_
      have hP : va_P (dC, dI) cls (List.flatten ([[((p0a 0), .inr (14, [.ref xv, .int (w 0 1), .int (w 0 2), .int (w 0 3), .int (w 0 4), .ref (p0a 6), .null, .ref (p0a 8), .ref (p0a 9), .int (w 0 9), .int (w 0 10), .int (w 0 11), .int (w 0 12)]))], [(q1, arE c1 (nn p2) f)], wt] : List va_W)) H := vP_perm hP (bP ((((List.Perm.refl _)).cons _).trans (List.Perm.swap _ _ _)))
      have hD : va_D A (List.flatten ([[((p0a 0), .inr (14, [.ref xv, .int (w 0 1), .int (w 0 2), .int (w 0 3), .int (w 0 4), .ref (p0a 6), .null, .ref (p0a 8), .ref (p0a 9), .int (w 0 9), .int (w 0 10), .int (w 0 11), .int (w 0 12)]))], [(q1, arE c1 (nn p2) f)], wt] : List va_W)) := vD_perm hD (bP ((((List.Perm.refl _)).cons _).trans (List.Perm.swap _ _ _)))
      have hK : va_K (dC, dI) cls (List.flatten ([[], [(c1, FieldType.object RX12)], tt] : List (List (ClassId × FieldType)))) s := vK_perm hK (bP ((((List.Perm.refl _)).cons _).trans (List.Perm.swap _ _ _)))
      subst ho
      subst hQ
      have har : ar9 (List.flatten ([[(q1, arE c1 (nn p2) f)], wt] : List va_W)) (List.flatten ([[(c1, FieldType.object RX12)], tt] : List (List (ClassId × FieldType)))) (lh9 (List.flatten ([[(q1, arE c1 (nn p2) f)], wt] : List va_W)) (List.flatten ([[(c1, FieldType.object RX12)], tt] : List (List (ClassId × FieldType)))) D9) q1 (nn p2) (bs ++ []) := ⟨c1, f, fl_mem 0 rfl (List.mem_singleton.mpr rfl), fl_mem 0 rfl (List.mem_singleton.mpr rfl), Nat.le_trans hN hM, by rw [List.append_nil]; exact rw9_m (fun _ _ q => lh9_m (fun x hx => fl_mem 1 rfl hx) (fun x hx => fl_mem 1 rfl hx) q) hrw⟩
      refine W.widen (k := 1 + M9 * (C9 + 1)) (n := 4 * (1 + M9 * (C9 + 1))) (by omega) (by omega) ?_
      exact W.aret (v := .ref q1) (rt := .array (.object RX12)) hx hb hr (Or.inr ⟨_, rfl⟩) (Or.inr ⟨_, rfl⟩) (fun t ht hW => ⟨⟨(), q1, rfl, trivial, (List.flatten ([[(q1, arE c1 (nn p2) f)], wt] : List va_W)), (List.flatten ([[(c1, FieldType.object RX12)], tt] : List (List (ClassId × FieldType)))), har, by rw [ht, fl_two]; exact hP, by rw [fl_two]; exact va_K.moved hW.alike hK, by rw [fl_two]; exact hD⟩, hS.F ht⟩) hS.2.2 dX13_lines_30
    | succ R ih =>
      intro I w f wt tt bs o1 H locs ls hI hf hrw ho hP hD hK hS hl
      have hIN : I < nn p2 := by omega
      have hI31 : I < 2147483648 := by omega
      have hmul : (I + 1) * C9 ≤ M9 * C9 := Nat.mul_le_mul_right _ (by omega)
      have hsm : (I + 1) * C9 = I * C9 + C9 := Nat.succ_mul I C9
      have hNC : nn p2 ≤ 6 := Nat.le_trans hN hM
      have hc : ¬ p2 ≤ Int32.ofNat I := by rw [hp2]; intro h9; have h8 := (pu_le (by omega) hI31).mp h9; omega
      obtain ⟨o2, hc2, hf⟩ := bnd9 (show (kk_line w p1).bind (fun (o : List Int32 × ST) => (fLs kk_line R o.2 p1).bind fun (o2 : List Int32 × ST) => some (o.1 ++ o2.1, o2.2)) = some o1 from hf)
      obtain ⟨o3, hc3, hf⟩ := bnd9 hf
      obtain rfl := Option.some.inj hf
      refine lv_iload hx hb dX13_lines_8 (lv_at hl 0 rfl) ?_
      refine lv_iload_n hx hb dX13_lines_10 rfl (lv_at hl 4 rfl) ?_
      refine lv_icmp_ge (tgt := 29) hx hb dX13_lines_11 (by decide) (fun c => absurd c hc) (fun _ => ?_)
      refine lv_aload_n hx hb dX13_lines_14 rfl (lv_at hl 1 rfl) ?_
      refine lv_iload hx hb dX13_lines_15 (lv_at hl 0 rfl) ?_
      refine lv_aload_n hx hb dX13_lines_17 rfl (lv_at hl 2 rfl) ?_
      refine lv_iload_n hx hb dX13_lines_18 rfl (lv_at hl 3 rfl) ?_
      have hPx : va_P (dC, dI) cls ((List.flatten ([[((p0a 0), .inr (14, [.ref xv, .int (w 0 1), .int (w 0 2), .int (w 0 3), .int (w 0 4), .ref (p0a 6), .null, .ref (p0a 8), .ref (p0a 9), .int (w 0 9), .int (w 0 10), .int (w 0 11), .int (w 0 12)]))]] : List va_W)) ++ (List.flatten ([[(q1, arE c1 (nn p2) f)], wt] : List va_W))) H := vP_fa (vP_perm hP (bP ((((List.Perm.refl _)).cons _).trans (List.Perm.swap _ _ _))))
      have hDx : va_D A ((List.flatten ([[((p0a 0), .inr (14, [.ref xv, .int (w 0 1), .int (w 0 2), .int (w 0 3), .int (w 0 4), .ref (p0a 6), .null, .ref (p0a 8), .ref (p0a 9), .int (w 0 9), .int (w 0 10), .int (w 0 11), .int (w 0 12)]))]] : List va_W)) ++ (List.flatten ([[(q1, arE c1 (nn p2) f)], wt] : List va_W))) := vD_fa (vD_perm hD (bP ((((List.Perm.refl _)).cons _).trans (List.Perm.swap _ _ _))))
      have hKx : va_K (dC, dI) cls ((List.flatten ([[]] : List (List (ClassId × FieldType)))) ++ (List.flatten ([[(c1, FieldType.object RX12)], tt] : List (List (ClassId × FieldType))))) s := vK_fa (vK_perm hK (bP ((((List.Perm.refl _)).cons _).trans (List.Perm.swap _ _ _))))
      have hPc := vP_l hPx
      have hDc := vD_l hDx
      have hKc := vK_l hKx
      have hFc := vfree hDx hS hA
      refine va_callr (va_runV (As := [.int p1]) (rest := [.int (Int32.ofNat I), .ref q1]) ⟨hx, hb, hml, hown, hts⟩ (hkk_line dC dI p0a w p1 _ o2 hc2) (cwV 1 hts (gi_V qw1605 qw1606 qw1607 qw1566 (gi_z qw1604)) rfl rfl rfl (by decide +kernel) ⟨rmF9, rmL9 (n := 24) (Nat.le_of_ble_eq_true rfl)⟩) ⟨PRE.blind, va_recv hKc hPc (ci := 14) (q0 := 0) rfl rfl, PRE.of (ENV.add hE xq9_m hro_x) hS hFc hPc hKc hDc⟩ rfl rfl hl.1 rfl (lv_room (Nat.le_of_ble_eq_true rfl)) dX13_lines_19 ⟨(show 1 + I * C9 + C9 ≤ 1 + M9 * (C9 + 1) from by omega), (show 4 * (1 + I * C9) + nn p2 + 4 * C9 ≤ 4 * (1 + M9 * (C9 + 1)) from by omega)⟩) hS (fun q _ h => hFc q h) hFc (fun u r t H locs ht hvm hw hB hz1 hk1 hS => ?_)
      obtain ⟨wt2, tt2, hlh, hB⟩ := hB
      obtain ⟨b1, b2, b3⟩ := hB
      rw [ht] at b1
      obtain ⟨hP, hD, hK⟩ := JOINC (wc := (List.flatten ([[((p0a 0), .inr (14, [.ref xv, .int (w 0 1), .int (w 0 2), .int (w 0 3), .int (w 0 4), .ref (p0a 6), .null, .ref (p0a 8), .ref (p0a 9), .int (w 0 9), .int (w 0 10), .int (w 0 11), .int (w 0 12)]))]] : List va_W))) (wr := (List.flatten ([[(q1, arE c1 (nn p2) f)], wt] : List va_W))) (w1 := (List.flatten ([[((p0a 0), .inr (14, [.ref xv, .int (o2.2 0 1), .int (o2.2 0 2), .int (o2.2 0 3), .int (o2.2 0 4), .ref (p0a 6), .null, .ref (p0a 8), .ref (p0a 9), .int (o2.2 0 9), .int (o2.2 0 10), .int (o2.2 0 11), .int (o2.2 0 12)]))], wt2] : List va_W))) (t1 := (List.flatten ([[], tt2] : List (List (ClassId × FieldType))))) hPx hDx hKx hk1 hFc b1 (va_K.moved hvm.symm b2) b3
      have hP : va_P (dC, dI) cls (List.flatten ([[(q1, arE c1 (nn p2) f)], [((p0a 0), .inr (14, [.ref xv, .int (o2.2 0 1), .int (o2.2 0 2), .int (o2.2 0 3), .int (o2.2 0 4), .ref (p0a 6), .null, .ref (p0a 8), .ref (p0a 9), .int (o2.2 0 9), .int (o2.2 0 10), .int (o2.2 0 11), .int (o2.2 0 12)]))], wt, wt2] : List va_W)) H := vP_perm (vP_fb hP) (bP (((((((((List.Perm.refl _)).cons _).trans (List.Perm.swap _ _ _))).cons _).trans (List.Perm.swap _ _ _))).trans (((((List.Perm.refl _)).trans ((((((List.Perm.refl _)).cons _).trans (List.Perm.swap _ _ _))).cons _))).cons _)))
      have hD : va_D A (List.flatten ([[(q1, arE c1 (nn p2) f)], [((p0a 0), .inr (14, [.ref xv, .int (o2.2 0 1), .int (o2.2 0 2), .int (o2.2 0 3), .int (o2.2 0 4), .ref (p0a 6), .null, .ref (p0a 8), .ref (p0a 9), .int (o2.2 0 9), .int (o2.2 0 10), .int (o2.2 0 11), .int (o2.2 0 12)]))], wt, wt2] : List va_W)) := vD_perm (vD_fb hD) (bP (((((((((List.Perm.refl _)).cons _).trans (List.Perm.swap _ _ _))).cons _).trans (List.Perm.swap _ _ _))).trans (((((List.Perm.refl _)).trans ((((((List.Perm.refl _)).cons _).trans (List.Perm.swap _ _ _))).cons _))).cons _)))
      have hK : va_K (dC, dI) cls (List.flatten ([[(c1, FieldType.object RX12)], [], tt, tt2] : List (List (ClassId × FieldType)))) s := vK_perm (vK_fb hK) (bP (((((((((List.Perm.refl _)).cons _).trans (List.Perm.swap _ _ _))).cons _).trans (List.Perm.swap _ _ _))).trans (((((List.Perm.refl _)).trans ((((((List.Perm.refl _)).cons _).trans (List.Perm.swap _ _ _))).cons _))).cons _)))
      obtain ⟨vs, hmem⟩ := lh9_at hlh
      obtain ⟨j, hj⟩ := List.getElem?_of_mem (fl_mem (L := [[(q1, arE c1 (nn p2) f)], [((p0a 0), .inr (14, [.ref xv, .int (o2.2 0 1), .int (o2.2 0 2), .int (o2.2 0 3), .int (o2.2 0 4), .ref (p0a 6), .null, .ref (p0a 8), .ref (p0a 9), .int (o2.2 0 9), .int (o2.2 0 10), .int (o2.2 0 11), .int (o2.2 0 12)]))], wt, wt2]) 3 rfl hmem)
      refine va_astq hx hb hK hP hD hS 0 0 j 15 rfl rfl hj rfl (ixb_in ((pu_ix hI31).mpr hIN)) dX13_lines_22 (fun H locs hP hD hS => ?_)
      have hP : va_P (dC, dI) cls (List.flatten ([[(q1, arE c1 (nn p2) (va_up f (nn (Int32.ofNat I)) (some r)))], [((p0a 0), .inr (14, [.ref xv, .int (o2.2 0 1), .int (o2.2 0 2), .int (o2.2 0 3), .int (o2.2 0 4), .ref (p0a 6), .null, .ref (p0a 8), .ref (p0a 9), .int (o2.2 0 9), .int (o2.2 0 10), .int (o2.2 0 11), .int (o2.2 0 12)]))], List.flatten [wt, wt2]] : List va_W)) H := by rw [fl_t4]; exact hP
      have hD : va_D A (List.flatten ([[(q1, arE c1 (nn p2) (va_up f (nn (Int32.ofNat I)) (some r)))], [((p0a 0), .inr (14, [.ref xv, .int (o2.2 0 1), .int (o2.2 0 2), .int (o2.2 0 3), .int (o2.2 0 4), .ref (p0a 6), .null, .ref (p0a 8), .ref (p0a 9), .int (o2.2 0 9), .int (o2.2 0 10), .int (o2.2 0 11), .int (o2.2 0 12)]))], List.flatten [wt, wt2]] : List va_W)) := by rw [fl_t4]; exact hD
      have hK : va_K (dC, dI) cls (List.flatten ([[(c1, FieldType.object RX12)], [], List.flatten [tt, tt2]] : List (List (ClassId × FieldType)))) s := by rw [fl_t4]; exact hK
      refine lv_iinc (v := (Int32.ofNat I + 1)) (lv' := [(4, .int (Int32.ofNat I + 1)), (3, .ref q1), (0, .ref (p0a 0)), (1, .int p1), (2, .int p2)]) hx hb dX13_lines_23 hl (k := 0) rfl rfl (by decide) rfl (fun ls hl => ?_)
      have e1 : Int32.ofNat I + 1 = Int32.ofNat (I + 1) := pu_su I
      rw [e1] at hl
      refine lv_goto (tgt := 8) hx hb dX13_lines_26 (by decide) ?_
      have eN : nn (Int32.ofNat I) = I := pu_nn hI31
      refine W.widen (k := 1 + (I + 1) * C9) (n := 4 * (1 + (I + 1) * C9) + nn p2) (by omega) (by omega) ?_
      refine ih (I + 1) o2.2 (va_up f (nn (Int32.ofNat I)) (some r)) (List.flatten [wt, wt2]) (List.flatten [tt, tt2]) (bs ++ o2.1) o3 H locs ls (by omega) hc3 ?_ (by rw [← ho, List.append_assoc]) hP hD hK hS hl
      refine ⟨bs, o2.1, r, rw9_c (fun j hj => ?_) (rw9_m (fun _ _ q => lh9_m (fun x hx => fl_mem 0 rfl hx) (fun x hx => fl_mem 0 rfl hx) q) hrw), ?_, lh9_m (fun x hx => fl_mem 1 rfl hx) (fun x hx => fl_mem 1 rfl hx) hlh, rfl⟩
      · show f j = if j = nn (Int32.ofNat I) then some r else f j
        have hne : ¬ j = nn (Int32.ofNat I) := by rw [eN]; omega
        rw [if_neg hne]
      · show (if I = nn (Int32.ofNat I) then some r else f I) = some r
        rw [if_pos eN.symm]
  exact loop (nn p2) 0 p0w (fun _ => none) [] [] [] o _ _ _ (by omega) hrun rfl rfl hP hD hK hS hl
def rN (xm : Nat) (xf : RI) : Nat → ST → Int32 → Option (List Int32 × ST)
  | 0 => fun _ _ => none
  | D + 1 => fX13_line (fun w a b => fLs (rN xm xf D) (nn b) w a) xm xf
def cN : Nat → Nat
  | 0 => 0
  | D + 1 => 3 * (cN D + 1) + 28
def rNf : Nat → Nat
  | 0 => 0
  | D + 1 => rNf D + 8 + 32
def rNl : Nat → Nat
  | 0 => 0
  | D + 1 => rNl D + 400 + 2000
theorem rN_ok (l : Launch) (xv xm : Nat) (xf : RI) : ∀ (D : Nat) {zs : ZS} (dC : Nat → ClassId) (dI : Nat → Nat → Nat) (p0a : Nat → Nat) (p0w : ST) (p1 : Int32) (sz : Nat) (o : List Int32 × ST) (hrun : rN xm xf D p0w p1 = some o), Met l yX13_line (wz yX13_line cX13_line 5 (Option.some (Jvm.ClassFile.FieldType.object "GearboxLaw$Line"))) ({ frames := rNf D, cells := cN D, slots := 4 * cN D, locals := rNl D } : Room) (va_Pc [.ref (p0a 0), .int p1] (PRE (zA zs (xq9 xv xm xf)) dC dI (List.flatten ([[((p0a 0), .inr (14, [.ref xv, .int (p0w 0 1), .int (p0w 0 2), .int (p0w 0 3), .int (p0w 0 4), .ref (p0a 6), .null, .ref (p0a 8), .ref (p0a 9), .int (p0w 0 9), .int (p0w 0 10), .int (p0w 0 11), .int (p0w 0 12)]))]] : List va_W)) (List.flatten ([[]] : List (List (ClassId × FieldType)))) sz)) (va_Qr (fun (_ : Unit) => True) (fun _ ra t => ∃ (wt : va_W) (tt : List (ClassId × FieldType)), lh9 wt tt D ra o.1 ∧ POST dC dI (List.flatten ([[((p0a 0), .inr (14, [.ref xv, .int (o.2 0 1), .int (o.2 0 2), .int (o.2 0 3), .int (o.2 0 4), .ref (p0a 6), .null, .ref (p0a 8), .ref (p0a 9), .int (o.2 0 9), .int (o.2 0 10), .int (o.2 0 11), .int (o.2 0 12)]))], wt] : List va_W)) (List.flatten ([[], tt] : List (List (ClassId × FieldType)))) (va_A (List.flatten ([[((p0a 0), .inr (14, [.ref xv, .int (p0w 0 1), .int (p0w 0 2), .int (p0w 0 3), .int (p0w 0 4), .ref (p0a 6), .null, .ref (p0a 8), .ref (p0a 9), .int (p0w 0 9), .int (p0w 0 10), .int (p0w 0 11), .int (p0w 0 12)]))]] : List va_W)) sz) t) (va_A (List.flatten ([[((p0a 0), .inr (14, [.ref xv, .int (p0w 0 1), .int (p0w 0 2), .int (p0w 0 3), .int (p0w 0 4), .ref (p0a 6), .null, .ref (p0a 8), .ref (p0a 9), .int (p0w 0 9), .int (p0w 0 10), .int (p0w 0 11), .int (p0w 0 12)]))]] : List va_W)) sz)) (cN D) (4 * (cN D)) (va_A (List.flatten ([[((p0a 0), .inr (14, [.ref xv, .int (p0w 0 1), .int (p0w 0 2), .int (p0w 0 3), .int (p0w 0 4), .ref (p0a 6), .null, .ref (p0a 8), .ref (p0a 9), .int (p0w 0 9), .int (p0w 0 10), .int (p0w 0 11), .int (p0w 0 12)]))]] : List va_W)) sz) := by
  intro D
  induction D with
  | zero => intro zs dC dI p0a p0w p1 sz o hrun; exact (no9 rfl hrun).elim
  | succ D ih => exact fun {zs} => kX13_line l (fun w a b => fLs (rN xm xf D) (nn b) w a) (rNf D + 8) (rNl D + 400) (cN D + 1) D xv xm xf (fun {zs} => kX13_lines l (rN xm xf D) (rNf D) (rNl D) (cN D) D xv xm xf ih)
