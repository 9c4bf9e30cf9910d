abbrev cX11_slots : ByteArray := prog_1_method_39_code
def yX11_slots : MethodName := ⟨RX11, "slots", "(I)I"⟩
abbrev cX11_word : ByteArray := prog_1_method_46_code
def yX11_word : MethodName := ⟨RX11, "word", "(I)I"⟩
theorem dX11_slots_0 : decode cX11_slots 0 = .ok (.aload_n 0, 1) := by decide +kernel
theorem dX11_slots_1 : decode cX11_slots 1 = .ok (.iload_n 1, 1) := by decide +kernel
theorem dX11_slots_2 : decode cX11_slots 2 = .ok (.invokevirtual 142, 3) := by decide +kernel
theorem dX11_slots_5 : decode cX11_slots 5 = .ok (.aload_n 0, 1) := by decide +kernel
theorem dX11_slots_6 : decode cX11_slots 6 = .ok (.getfield 54, 3) := by decide +kernel
theorem dX11_slots_9 : decode cX11_slots 9 = .ok (.getfield 138, 3) := by decide +kernel
theorem dX11_slots_12 : decode cX11_slots 12 = .ok (.ifCond .eq 15, 3) := by decide +kernel
theorem dX11_slots_15 : decode cX11_slots 15 = .ok (.aload_n 0, 1) := by decide +kernel
theorem dX11_slots_16 : decode cX11_slots 16 = .ok (.getfield 54, 3) := by decide +kernel
theorem dX11_slots_19 : decode cX11_slots 19 = .ok (.getfield 275, 3) := by decide +kernel
theorem dX11_slots_22 : decode cX11_slots 22 = .ok (.iload_n 1, 1) := by decide +kernel
theorem dX11_slots_23 : decode cX11_slots 23 = .ok (.iaload, 1) := by decide +kernel
theorem dX11_slots_24 : decode cX11_slots 24 = .ok (.goto 4, 3) := by decide +kernel
theorem dX11_slots_27 : decode cX11_slots 27 = .ok (.iconst 0, 1) := by decide +kernel
theorem dX11_slots_28 : decode cX11_slots 28 = .ok (.ireturn, 1) := by decide +kernel
theorem dX11_word_0 : decode cX11_word 0 = .ok (.aload_n 0, 1) := by decide +kernel
theorem dX11_word_1 : decode cX11_word 1 = .ok (.iload_n 1, 1) := by decide +kernel
theorem dX11_word_2 : decode cX11_word 2 = .ok (.bipush 16, 2) := by decide +kernel
theorem dX11_word_4 : decode cX11_word 4 = .ok (.invokevirtual 168, 3) := by decide +kernel
theorem dX11_word_7 : decode cX11_word 7 = .ok (.aload_n 0, 1) := by decide +kernel
theorem dX11_word_8 : decode cX11_word 8 = .ok (.getfield 73, 3) := by decide +kernel
theorem dX11_word_11 : decode cX11_word 11 = .ok (.getfield 303, 3) := by decide +kernel
theorem dX11_word_14 : decode cX11_word 14 = .ok (.iload_n 1, 1) := by decide +kernel
theorem dX11_word_15 : decode cX11_word 15 = .ok (.iaload, 1) := by decide +kernel
theorem dX11_word_16 : decode cX11_word 16 = .ok (.ireturn, 1) := by decide +kernel
def fX11_slots_J28 (y0_28 : Int32) : Option Int32 := some y0_28
def fX11_slots (p1 : Int32) (p0_8w : ST) (p0_5w : ST) : Option Int32 := ((fX11_needFunction p1 p0_8w).bind fun (o_1 : Unit) => (if (p0_5w 0 5) = 0 then (fX11_slots_J28 0) else (if ixb p1 6 = true then (fX11_slots_J28 (p0_5w 3 (nn p1))) else none)))
set_option maxHeartbeats 16000000 in
set_option maxRecDepth 100000 in
theorem kX11_slots {zs : ZS} (l : Launch) (dC : Nat → ClassId) (dI : Nat → Nat → Nat) (p0a : Nat → Nat) (p0w : ST) (p1 : Int32) (p0_8a : Nat → Nat) (p0_8k : Nat → ClassId) (p0_8w : ST) (p0_8l : SL) (p0_5a : Nat → Nat) (p0_5k : Nat → ClassId) (p0_5n : Nat → Nat) (p0_5w : ST) (sz : Nat) (o : Int32) (hrun : fX11_slots p1 p0_8w p0_5w = some o) : Met l yX11_slots (wz yX11_slots cX11_slots 2 (Option.some Jvm.ClassFile.FieldType.int)) ({ frames := 1, cells := 0, slots := 0, locals := 21 } : Room) (va_Pc [.ref (p0a 0), .int p1] (PRE zs dC dI (List.flatten ([(oX11 (p0a 0) p0a p0w), (oX6 (p0a 9) p0_8a p0_8k p0_8w p0_8l), (oX0 (p0a 6) p0_5a p0_5k p0_5n p0_5w)] : List va_W)) (List.flatten ([[], (tX6 p0_8k), (tX0 p0_5k)] : List (List (ClassId × FieldType)))) sz)) (va_Qi (fun (r : Int32) (_ : Unit) => r = o) (fun _ t => POST dC dI (List.flatten ([(oX11 (p0a 0) p0a p0w), (oX6 (p0a 9) p0_8a p0_8k p0_8w p0_8l), (oX0 (p0a 6) p0_5a p0_5k p0_5n p0_5w)] : List va_W)) (List.flatten ([[], (tX6 p0_8k), (tX0 p0_5k)] : List (List (ClassId × FieldType)))) (va_A (List.flatten ([(oX11 (p0a 0) p0a p0w), (oX6 (p0a 9) p0_8a p0_8k p0_8w p0_8l), (oX0 (p0a 6) p0_5a p0_5k p0_5n p0_5w)] : List va_W)) sz) t) (va_A (List.flatten ([(oX11 (p0a 0) p0a p0w), (oX6 (p0a 9) p0_8a p0_8k p0_8w p0_8l), (oX0 (p0a 6) p0_5a p0_5k p0_5n p0_5w)] : List va_W)) sz)) 0 0 (va_A (List.flatten ([(oX11 (p0a 0) p0a p0w), (oX6 (p0a 9) p0_8a p0_8k p0_8w p0_8l), (oX0 (p0a 6) p0_5a p0_5k p0_5n p0_5w)] : List va_W)) sz) := by
  refine Met.ofW (cc := cX11_slots) (maxL := 2) (ret := (Option.some Jvm.ClassFile.FieldType.int)) (by decide) rfl ?_
  intro p e s m args below meth c s₁ B hml hv
  obtain ⟨rfl, hsz, hP, hK, hD0, hE⟩ := hv
  have hx := B.exec
  have hb := B.bytes
  have hr := B.returns
  have hts0 := atoms_spec (ws := wz yX11_slots cX11_slots 2 (Option.some Jvm.ClassFile.FieldType.int)) B.pre
  have hts : ∀ w ∈ gw, w.before _ s = true := fun w h => hts0 w (List.mem_cons_of_mem _ h)
  have hown : s.vm.findClass RX11 = some m.cls := findClass_of_methodNamed B.named
  have hlocks := B.notSynchronized
  subst hsz
  have hD := hD0.self (sz := s.heap.size)
  refine gQ9 ?_
  intro Q hQ
  generalize hAe : va_A (List.flatten ([(oX11 (p0a 0) p0a p0w), (oX6 (p0a 9) p0_8a p0_8k p0_8w p0_8l), (oX0 (p0a 6) p0_5a p0_5k p0_5n p0_5w)] : List va_W)) s.heap.size = A at hD hE hQ
  have hA : ∀ q : Nat, s.heap.size ≤ q → A q := fun q h => by rw [← hAe]; exact Or.inr h
  have hS : va_S A s.heap s.heap [] := va_S.rf
  have hP : va_P (dC, dI) cls (List.flatten ([(oX11 (p0a 0) p0a p0w), (oX6 (p0a 9) p0_8a p0_8k p0_8w p0_8l), (oX0 (p0a 6) p0_5a p0_5k p0_5n p0_5w)] : List va_W)) s.heap := hP
  have hl := lv_entry ([.ref (p0a 0), .int p1]) (n := 2) (Nat.le_of_ble_eq_true rfl)
  rw [lg_entry_eq]
  generalize (lg_sl ([.ref (p0a 0), .int p1]) ++ List.replicate (2 - (lg_sl ([.ref (p0a 0), .int p1])).length) Slot.unset).toArray = ls at hl ⊢
  have hl : lv_has ls 2 [(0, .ref (p0a 0)), (1, .int p1)] := hl
  obtain ⟨H, hHe⟩ : ∃ H, H = s.heap := ⟨_, rfl⟩
  obtain ⟨locs, hle⟩ : ∃ locs : List Loc, locs = [] := ⟨_, rfl⟩
  rw [← hHe] at hP
  have hS : va_S A s.heap H locs := by rw [hHe, hle]; exact hS
  show W p l e ({ frames := 1, cells := 0, slots := 0, locals := 21 } : Room) s m ([.ref (p0a 0), .int p1] : List Value).toArray below meth c s.heap [] 0 0 Q (F0 m 0 ls [])
  rw [← hle]
  refine wH9 hHe ?_
  unfold fX11_slots at hrun
  refine lv_aload_n hx hb dX11_slots_0 rfl (lv_at hl 0 rfl) ?_
  refine lv_iload_n hx hb dX11_slots_1 rfl (lv_at hl 1 rfl) ?_
  obtain ⟨o_1, hc_1, hrun⟩ := bnd9 hrun
  have hPx : va_P (dC, dI) cls ((List.flatten ([(oX11 (p0a 0) p0a p0w), (oX6 (p0a 9) p0_8a p0_8k p0_8w p0_8l)] : List va_W)) ++ (List.flatten ([(oX0 (p0a 6) p0_5a p0_5k p0_5n p0_5w)] : List va_W))) H := vP_fa (vP_perm hP (bP (List.Perm.refl _)))
  have hDx : va_D A ((List.flatten ([(oX11 (p0a 0) p0a p0w), (oX6 (p0a 9) p0_8a p0_8k p0_8w p0_8l)] : List va_W)) ++ (List.flatten ([(oX0 (p0a 6) p0_5a p0_5k p0_5n p0_5w)] : List va_W))) := vD_fa (vD_perm hD (bP (List.Perm.refl _)))
  have hKx : va_K (dC, dI) cls ((List.flatten ([[], (tX6 p0_8k)] : List (List (ClassId × FieldType)))) ++ (List.flatten ([(tX0 p0_5k)] : List (List (ClassId × FieldType))))) s := vK_fa (vK_perm hK (bP (List.Perm.refl _)))
  have hPc := vP_l hPx
  have hDc := vD_l hDx
  have hKc := vK_l hKx
  have hFc := vfree hDx hS hA
  refine va_callv (va_runV (As := [.int p1]) (rest := []) ⟨hx, hb, hml, hown, hts⟩ (kX11_needFunction l dC dI (p0a := p0a) (p0w := p0w) (p1 := p1) (p0_8a := p0_8a) (p0_8k := p0_8k) (p0_8w := p0_8w) (p0_8l := p0_8l) (sz := _) (o := o_1) (hrun := hc_1)) (cwV 1 hts (gi_V qw1036 qw1037 qw1038 qw129 (gi_z qw1035)) rfl rfl rfl (by decide +kernel) ⟨Nat.le_of_ble_eq_true rfl, Nat.le_of_ble_eq_true rfl⟩) ⟨PRE.blind, va_recv hKc hPc (ci := 11) (q0 := 0) rfl rfl, PRE.of hE hS hFc hPc hKc hDc⟩ rfl rfl hl.1 rfl (lv_room (Nat.le_of_ble_eq_true rfl)) dX11_slots_2 ⟨(Nat.le_of_ble_eq_true rfl), (Nat.le_of_ble_eq_true rfl)⟩) hS (fun q _ h => hFc q h) hFc (fun u t H locs ht hvm hw hB hz1 hk1 hS => ?_)
  obtain ⟨b1, b2, b3⟩ := hB
  rw [ht] at b1
  obtain ⟨hP, hD, hK⟩ := JOINC (wc := (List.flatten ([(oX11 (p0a 0) p0a p0w), (oX6 (p0a 9) p0_8a p0_8k p0_8w p0_8l)] : List va_W))) (wr := (List.flatten ([(oX0 (p0a 6) p0_5a p0_5k p0_5n p0_5w)] : List va_W))) (w1 := (List.flatten ([(oX11 (p0a 0) p0a p0w), (oX6 (p0a 9) p0_8a p0_8k p0_8w p0_8l)] : List va_W))) (t1 := (List.flatten ([[], (tX6 p0_8k)] : List (List (ClassId × FieldType))))) hPx hDx hKx hk1 hFc b1 (va_K.moved hvm.symm b2) b3
  have hP : va_P (dC, dI) cls (List.flatten ([(oX11 (p0a 0) p0a p0w), (oX6 (p0a 9) p0_8a p0_8k p0_8w p0_8l), (oX0 (p0a 6) p0_5a p0_5k p0_5n p0_5w)] : List va_W)) H := vP_perm (vP_fb hP) (bP (List.Perm.refl _))
  have hD : va_D A (List.flatten ([(oX11 (p0a 0) p0a p0w), (oX6 (p0a 9) p0_8a p0_8k p0_8w p0_8l), (oX0 (p0a 6) p0_5a p0_5k p0_5n p0_5w)] : List va_W)) := vD_perm (vD_fb hD) (bP (List.Perm.refl _))
  have hK : va_K (dC, dI) cls (List.flatten ([[], (tX6 p0_8k), (tX0 p0_5k)] : List (List (ClassId × FieldType)))) s := vK_perm (vK_fb hK) (bP (List.Perm.refl _))
  refine lv_aload_n hx hb dX11_slots_5 rfl (lv_at hl 0 rfl) ?_
  refine va_get (D := (dC, dI)) (ci := 11) (v := .ref (p0a 6)) (C := RX11) (T := TX11) (N := 11) hx hb hts i_X11 hown hK hP 0 rfl rfl 5 (by decide) (hts _ qw1029) (fun _ h9 => h9) rfl dX11_slots_6 ?_
  refine va_get (D := (dC, dI)) (ci := 8) (v := .int (p0_5w 0 5)) (C := RX0) (T := TX0) (N := 17) hx hb hts i_X0 hown hK hP 12 rfl rfl 5 (by decide) (hts _ qw1039) (fun _ h9 => h9) rfl dX11_slots_9 ?_
  have J28 : ∀ (y0_28 : Int32) (H : Heap) (locs : List Loc) (ls : Array Slot), (fX11_slots_J28 y0_28) = some o → va_P (dC, dI) cls (List.flatten ([(oX11 (p0a 0) p0a p0w), (oX6 (p0a 9) p0_8a p0_8k p0_8w p0_8l), (oX0 (p0a 6) p0_5a p0_5k p0_5n p0_5w)] : List va_W)) H → va_D A (List.flatten ([(oX11 (p0a 0) p0a p0w), (oX6 (p0a 9) p0_8a p0_8k p0_8w p0_8l), (oX0 (p0a 6) p0_5a p0_5k p0_5n p0_5w)] : List va_W)) → va_K (dC, dI) cls (List.flatten ([[], (tX6 p0_8k), (tX0 p0_5k)] : List (List (ClassId × FieldType)))) s → va_S A s.heap H locs → lv_has ls 2 [] → W p l e ({ frames := 1, cells := 0, slots := 0, locals := 21 } : Room) s m ([.ref (p0a 0), .int p1] : List Value).toArray below meth c H locs 0 0 Q (F0 m 28 ls [.int y0_28]) := by
    intro y0_28 H locs ls hrun hP hD hK hS hl 
    unfold fX11_slots_J28 at hrun
    have ho9 : y0_28 = o := Option.some.inj hrun
    have hP9 : va_P (dC, dI) cls (List.flatten ([(oX11 (p0a 0) p0a p0w), (oX6 (p0a 9) p0_8a p0_8k p0_8w p0_8l), (oX0 (p0a 6) p0_5a p0_5k p0_5n p0_5w)] : List va_W)) H := by first | exact hP | (rw [← ho9]; exact hP)
    have hD9 : va_D A (List.flatten ([(oX11 (p0a 0) p0a p0w), (oX6 (p0a 9) p0_8a p0_8k p0_8w p0_8l), (oX0 (p0a 6) p0_5a p0_5k p0_5n p0_5w)] : List va_W)) := by first | exact hD | (rw [← ho9]; exact hD)
    subst hQ
    exact W.iret (v := y0_28) hx hb hr (fun t ht hW => ⟨⟨y0_28, (), rfl, (by rw [← ho9]), ⟨by rw [ht]; exact hP9, va_K.moved hW.alike hK, hD9⟩⟩, hS.F ht⟩) hS.2.2 dX11_slots_28
  rcases br9 hrun with ⟨hc2, hrun⟩ | ⟨hc2, hrun⟩
  · refine lv_if_eq (tgt := 27) hx hb dX11_slots_12 (by decide) (fun _ => ?_) (fun c => absurd hc2 c)
    refine lv_iconst (v := 0) hx hb dX11_slots_27 (by decide) ?_
    exact J28 0 _ _ _ hrun hP hD hK hS (lv_sub hl [] rfl)
  · refine lv_if_eq (tgt := 27) hx hb dX11_slots_12 (by decide) (fun c => absurd c hc2) (fun _ => ?_)
    refine lv_aload_n hx hb dX11_slots_15 rfl (lv_at hl 0 rfl) ?_
    refine va_get (D := (dC, dI)) (ci := 11) (v := .ref (p0a 6)) (C := RX11) (T := TX11) (N := 11) hx hb hts i_X11 hown hK hP 0 rfl rfl 5 (by decide) (hts _ qw1029) (fun _ h9 => h9) rfl dX11_slots_16 ?_
    refine va_get (D := (dC, dI)) (ci := 8) (v := .ref (p0_5a 3)) (C := RX0) (T := TX0) (N := 17) hx hb hts i_X0 hown hK hP 12 rfl rfl 2 (by decide) (hts _ qw1117) (fun _ h9 => h9) rfl dX11_slots_19 ?_
    refine lv_iload_n hx hb dX11_slots_22 rfl (lv_at hl 1 rfl) ?_
    obtain ⟨hq3, hrun⟩ := chk9 hrun
    refine va_iald hx hb hK hP 13 10 rfl rfl (ixb_in hq3) dX11_slots_23 ?_
    refine lv_goto (tgt := 28) hx hb dX11_slots_24 (by decide) ?_
    exact J28 (p0_5w 3 (nn p1)) _ _ _ hrun hP hD hK hS (lv_sub hl [] rfl)
def fX11_word (p1 : Int32) (p0_6w : ST) : Option Int32 := ((fX11_needPlace p1 16).bind fun (o_1 : Unit) => (if ixb p1 16 = true then some (p0_6w 4 (nn p1)) else none))
set_option maxHeartbeats 16000000 in
set_option maxRecDepth 100000 in
theorem kX11_word {zs : ZS} (l : Launch) (dC : Nat → ClassId) (dI : Nat → Nat → Nat) (p0a : Nat → Nat) (p0w : ST) (p1 : Int32) (p0_6a : Nat → Nat) (p0_6k : Nat → ClassId) (p0_6n : Nat → Nat) (p0_6w : ST) (sz : Nat) (o : Int32) (hrun : fX11_word p1 p0_6w = some o) : Met l yX11_word (wz yX11_word cX11_word 2 (Option.some Jvm.ClassFile.FieldType.int)) ({ frames := 1, cells := 0, slots := 0, locals := 22 } : Room) (va_Pc [.ref (p0a 0), .int p1] (PRE zs dC dI (List.flatten ([(oX11 (p0a 0) p0a p0w), (oX3 (p0a 7) p0_6a p0_6k p0_6n p0_6w)] : List va_W)) (List.flatten ([[], (tX3 p0_6k)] : List (List (ClassId × FieldType)))) sz)) (va_Qi (fun (r : Int32) (_ : Unit) => r = o) (fun _ t => POST dC dI (List.flatten ([(oX11 (p0a 0) p0a p0w), (oX3 (p0a 7) p0_6a p0_6k p0_6n p0_6w)] : List va_W)) (List.flatten ([[], (tX3 p0_6k)] : List (List (ClassId × FieldType)))) (va_A (List.flatten ([(oX11 (p0a 0) p0a p0w), (oX3 (p0a 7) p0_6a p0_6k p0_6n p0_6w)] : List va_W)) sz) t) (va_A (List.flatten ([(oX11 (p0a 0) p0a p0w), (oX3 (p0a 7) p0_6a p0_6k p0_6n p0_6w)] : List va_W)) sz)) 0 0 (va_A (List.flatten ([(oX11 (p0a 0) p0a p0w), (oX3 (p0a 7) p0_6a p0_6k p0_6n p0_6w)] : List va_W)) sz) := by
  refine Met.ofW (cc := cX11_word) (maxL := 2) (ret := (Option.some Jvm.ClassFile.FieldType.int)) (by decide) rfl ?_
  intro p e s m args below meth c s₁ B hml hv
  obtain ⟨rfl, hsz, hP, hK, hD0, hE⟩ := hv
  have hx := B.exec
  have hb := B.bytes
  have hr := B.returns
  have hts0 := atoms_spec (ws := wz yX11_word cX11_word 2 (Option.some Jvm.ClassFile.FieldType.int)) B.pre
  have hts : ∀ w ∈ gw, w.before _ s = true := fun w h => hts0 w (List.mem_cons_of_mem _ h)
  have hown : s.vm.findClass RX11 = some m.cls := findClass_of_methodNamed B.named
  have hlocks := B.notSynchronized
  subst hsz
  have hD := hD0.self (sz := s.heap.size)
  refine gQ9 ?_
  intro Q hQ
  generalize hAe : va_A (List.flatten ([(oX11 (p0a 0) p0a p0w), (oX3 (p0a 7) p0_6a p0_6k p0_6n p0_6w)] : List va_W)) s.heap.size = A at hD hE hQ
  have hA : ∀ q : Nat, s.heap.size ≤ q → A q := fun q h => by rw [← hAe]; exact Or.inr h
  have hS : va_S A s.heap s.heap [] := va_S.rf
  have hP : va_P (dC, dI) cls (List.flatten ([(oX11 (p0a 0) p0a p0w), (oX3 (p0a 7) p0_6a p0_6k p0_6n p0_6w)] : List va_W)) s.heap := hP
  have hl := lv_entry ([.ref (p0a 0), .int p1]) (n := 2) (Nat.le_of_ble_eq_true rfl)
  rw [lg_entry_eq]
  generalize (lg_sl ([.ref (p0a 0), .int p1]) ++ List.replicate (2 - (lg_sl ([.ref (p0a 0), .int p1])).length) Slot.unset).toArray = ls at hl ⊢
  have hl : lv_has ls 2 [(0, .ref (p0a 0)), (1, .int p1)] := hl
  obtain ⟨H, hHe⟩ : ∃ H, H = s.heap := ⟨_, rfl⟩
  obtain ⟨locs, hle⟩ : ∃ locs : List Loc, locs = [] := ⟨_, rfl⟩
  rw [← hHe] at hP
  have hS : va_S A s.heap H locs := by rw [hHe, hle]; exact hS
  show W p l e ({ frames := 1, cells := 0, slots := 0, locals := 22 } : Room) s m ([.ref (p0a 0), .int p1] : List Value).toArray below meth c s.heap [] 0 0 Q (F0 m 0 ls [])
  rw [← hle]
  refine wH9 hHe ?_
  unfold fX11_word at hrun
  refine lv_aload_n hx hb dX11_word_0 rfl (lv_at hl 0 rfl) ?_
  refine lv_iload_n hx hb dX11_word_1 rfl (lv_at hl 1 rfl) ?_
  refine lv_bipush (v := 16) hx hb dX11_word_2 (by decide) ?_
  obtain ⟨o_1, hc_1, hrun⟩ := bnd9 hrun
  have hPx : va_P (dC, dI) cls ((List.flatten ([(oX11 (p0a 0) p0a p0w)] : List va_W)) ++ (List.flatten ([(oX3 (p0a 7) p0_6a p0_6k p0_6n p0_6w)] : List va_W))) H := vP_fa (vP_perm hP (bP (List.Perm.refl _)))
  have hDx : va_D A ((List.flatten ([(oX11 (p0a 0) p0a p0w)] : List va_W)) ++ (List.flatten ([(oX3 (p0a 7) p0_6a p0_6k p0_6n p0_6w)] : List va_W))) := vD_fa (vD_perm hD (bP (List.Perm.refl _)))
  have hKx : va_K (dC, dI) cls ((List.flatten ([[]] : List (List (ClassId × FieldType)))) ++ (List.flatten ([(tX3 p0_6k)] : List (List (ClassId × FieldType))))) s := vK_fa (vK_perm hK (bP (List.Perm.refl _)))
  have hPc := vP_l hPx
  have hDc := vD_l hDx
  have hKc := vK_l hKx
  have hFc := vfree hDx hS hA
  refine va_callv (va_runV (As := [.int p1, .int 16]) (rest := []) ⟨hx, hb, hml, hown, hts⟩ (kX11_needPlace l dC dI (p0a := p0a) (p0w := p0w) (p1 := p1) (p2 := 16) (sz := _) (o := o_1) (hrun := hc_1)) (cwV 2 hts (gi_V qw1047 qw1048 qw1049 qw129 (gi_z qw1046)) rfl rfl rfl (by decide +kernel) ⟨Nat.le_of_ble_eq_true rfl, Nat.le_of_ble_eq_true rfl⟩) ⟨PRE.blind, va_recv hKc hPc (ci := 11) (q0 := 0) rfl rfl, PRE.of hE hS hFc hPc hKc hDc⟩ rfl rfl hl.1 rfl (lv_room (Nat.le_of_ble_eq_true rfl)) dX11_word_4 ⟨(Nat.le_of_ble_eq_true rfl), (Nat.le_of_ble_eq_true rfl)⟩) hS (fun q _ h => hFc q h) hFc (fun u t H locs ht hvm hw hB hz1 hk1 hS => ?_)
  obtain ⟨b1, b2, b3⟩ := hB
  rw [ht] at b1
  obtain ⟨hP, hD, hK⟩ := JOINC (wc := (List.flatten ([(oX11 (p0a 0) p0a p0w)] : List va_W))) (wr := (List.flatten ([(oX3 (p0a 7) p0_6a p0_6k p0_6n p0_6w)] : List va_W))) (w1 := (List.flatten ([(oX11 (p0a 0) p0a p0w)] : List va_W))) (t1 := (List.flatten ([[]] : List (List (ClassId × FieldType))))) hPx hDx hKx hk1 hFc b1 (va_K.moved hvm.symm b2) b3
  have hP : va_P (dC, dI) cls (List.flatten ([(oX11 (p0a 0) p0a p0w), (oX3 (p0a 7) p0_6a p0_6k p0_6n p0_6w)] : List va_W)) H := vP_perm (vP_fb hP) (bP (List.Perm.refl _))
  have hD : va_D A (List.flatten ([(oX11 (p0a 0) p0a p0w), (oX3 (p0a 7) p0_6a p0_6k p0_6n p0_6w)] : List va_W)) := vD_perm (vD_fb hD) (bP (List.Perm.refl _))
  have hK : va_K (dC, dI) cls (List.flatten ([[], (tX3 p0_6k)] : List (List (ClassId × FieldType)))) s := vK_perm (vK_fb hK) (bP (List.Perm.refl _))
  refine lv_aload_n hx hb dX11_word_7 rfl (lv_at hl 0 rfl) ?_
  refine va_get (D := (dC, dI)) (ci := 11) (v := .ref (p0a 7)) (C := RX11) (T := TX11) (N := 11) hx hb hts i_X11 hown hK hP 0 rfl rfl 6 (by decide) (hts _ qw1059) (fun _ h9 => h9) rfl dX11_word_8 ?_
  refine va_get (D := (dC, dI)) (ci := 10) (v := .ref (p0_6a 4)) (C := RX3) (T := TX3) (N := 20) hx hb hts i_X3 hown hK hP 1 rfl rfl 3 (by decide) (hts _ qw1079) (fun _ h9 => h9) rfl dX11_word_11 ?_
  refine lv_iload_n hx hb dX11_word_14 rfl (lv_at hl 1 rfl) ?_
  obtain ⟨hq2, hrun⟩ := chk9 hrun
  refine va_iald hx hb hK hP 2 0 rfl rfl (ixb_in hq2) dX11_word_15 ?_
  have ho9 : (p0_6w 4 (nn p1)) = o := Option.some.inj hrun
  have hP9 : va_P (dC, dI) cls (List.flatten ([(oX11 (p0a 0) p0a p0w), (oX3 (p0a 7) p0_6a p0_6k p0_6n p0_6w)] : List va_W)) H := by first | exact hP | (rw [← ho9]; exact hP)
  have hD9 : va_D A (List.flatten ([(oX11 (p0a 0) p0a p0w), (oX3 (p0a 7) p0_6a p0_6k p0_6n p0_6w)] : List va_W)) := by first | exact hD | (rw [← ho9]; exact hD)
  subst hQ
  exact W.iret (v := (p0_6w 4 (nn p1))) hx hb hr (fun t ht hW => ⟨⟨(p0_6w 4 (nn p1)), (), rfl, (by rw [← ho9]), ⟨by rw [ht]; exact hP9, va_K.moved hW.alike hK, hD9⟩⟩, hS.F ht⟩) hS.2.2 dX11_word_16
