set_option maxHeartbeats 4000000 in
set_option maxRecDepth 100000 in
theorem kL_feed {zs : Nat × Nat} (l : Launch) (dC : Nat → ClassId) (dI : Nat → Nat → Nat) (gx : Nat) (gq1 : Nat) (gq2 : Nat) (gc3 : ClassId) (gq4 : Nat) (gq13 : Nat) (gq136 : Nat) (gq137 : Nat) (gq138 : Nat) (gq150 : Nat) (gq161 : Nat) (gq172 : Nat) (gq184 : Nat) (go : Nat) (gk : ClassId) (p0 : Int32) (p1 : Int32) (p2 : Int32) (p3 : Int32) (p4 : Int32) (sz : Nat)  : Met l yL_feed (wh yL_feed cL_feed 8 (Option.some Jvm.ClassFile.FieldType.int) [(0, 16, 19, 13)]) ({ frames := 2, cells := 0, slots := 0, locals := 47 }) (va_Pc [.ref gx, .int p0, .int p1, .int p2, .int p3, .int p4, .ref go] (PRE zs dC dI [(gx, .inr (11, [.ref gq1, .ref gq4, .ref gq13, .ref gq136, .ref gq137, .ref gq138, .ref gq172, .ref gq184, .ref gq150, .ref gq161, .int (-1)])), (gq1, .inr (0, [.ref gq2, .int 0, .int 0, .int 0, .int 0, .long 0, .int 0, .int 0])), (gq2, .inl (gc3, 1200, .inl (fun _ => 0))), (go, .inl (gk, 1, .inr (.inl (fun _ => 0))))] [(gc3, .int), (gk, .long)] sz)) (va_Qi (fun (r : Int32) (u : Nat → Int64) => r = 0 ∧ u 0 = 20) (fun u t => POST dC dI [(go, .inl (gk, 1, .inr (.inl u)))] [(gk, .long)] (va_A [(gx, .inr (11, [.ref gq1, .ref gq4, .ref gq13, .ref gq136, .ref gq137, .ref gq138, .ref gq172, .ref gq184, .ref gq150, .ref gq161, .int (-1)])), (gq1, .inr (0, [.ref gq2, .int 0, .int 0, .int 0, .int 0, .long 0, .int 0, .int 0])), (gq2, .inl (gc3, 1200, .inl (fun _ => 0))), (go, .inl (gk, 1, .inr (.inl (fun _ => 0))))] sz) t) (va_A [(gx, .inr (11, [.ref gq1, .ref gq4, .ref gq13, .ref gq136, .ref gq137, .ref gq138, .ref gq172, .ref gq184, .ref gq150, .ref gq161, .int (-1)])), (gq1, .inr (0, [.ref gq2, .int 0, .int 0, .int 0, .int 0, .long 0, .int 0, .int 0])), (gq2, .inl (gc3, 1200, .inl (fun _ => 0))), (go, .inl (gk, 1, .inr (.inl (fun _ => 0))))] sz)) 0 0 (va_A [(gx, .inr (11, [.ref gq1, .ref gq4, .ref gq13, .ref gq136, .ref gq137, .ref gq138, .ref gq172, .ref gq184, .ref gq150, .ref gq161, .int (-1)])), (gq1, .inr (0, [.ref gq2, .int 0, .int 0, .int 0, .int 0, .long 0, .int 0, .int 0])), (gq2, .inl (gc3, 1200, .inl (fun _ => 0))), (go, .inl (gk, 1, .inr (.inl (fun _ => 0))))] sz) := by
  refine va_MetW (cc := cL_feed) (maxL := 8) (ret := (Option.some Jvm.ClassFile.FieldType.int)) (hh := [(0, 16, 19, 13)]) (by decide) rfl ?_
  intro p e s m args below meth c s₁ B hml hv
  obtain ⟨rfl, hsz, hP, hK, hD0, hE⟩ := hv
  have hx := B.exec
  have hb := B.bytes
  have hr := B.returns
  have hts0 := atoms_spec (ws := wh yL_feed cL_feed 8 (Option.some Jvm.ClassFile.FieldType.int) [(0, 16, 19, 13)]) B.pre
  have htab := vx_table B (hts0 _ List.mem_cons_self)
  have hts : ∀ w ∈ gw, w.before _ s = true := fun w h => hts0 w (List.mem_cons_of_mem _ h)
  have hown : s.vm.findClass RL = some m.cls := findClass_of_methodNamed B.named
  have hlocks := B.notSynchronized
  subst hsz
  have hD := hD0.self (sz := s.heap.size)
  generalize hAe : va_A [(gx, .inr (11, [.ref gq1, .ref gq4, .ref gq13, .ref gq136, .ref gq137, .ref gq138, .ref gq172, .ref gq184, .ref gq150, .ref gq161, .int (-1)])), (gq1, .inr (0, [.ref gq2, .int 0, .int 0, .int 0, .int 0, .long 0, .int 0, .int 0])), (gq2, .inl (gc3, 1200, .inl (fun _ => 0))), (go, .inl (gk, 1, .inr (.inl (fun _ => 0))))] s.heap.size = A at hD hE ⊢
  have hA : ∀ q : Nat, s.heap.size ≤ q → A q := fun q h => by rw [← hAe]; exact Or.inr h
  have hS : va_S A s.heap s.heap [] := va_S.rf
  have hP : va_P (dC, dI) cls [(gx, .inr (11, [.ref gq1, .ref gq4, .ref gq13, .ref gq136, .ref gq137, .ref gq138, .ref gq172, .ref gq184, .ref gq150, .ref gq161, .int (-1)])), (gq1, .inr (0, [.ref gq2, .int 0, .int 0, .int 0, .int 0, .long 0, .int 0, .int 0])), (gq2, .inl (gc3, 1200, .inl (fun _ => 0))), (go, .inl (gk, 1, .inr (.inl (fun _ => 0))))] s.heap := hP
  have hl := lv_entry ([.ref gx, .int p0, .int p1, .int p2, .int p3, .int p4, .ref go]) (n := 8) (Nat.le_of_ble_eq_true rfl)
  rw [lg_entry_eq]
  generalize (lg_sl ([.ref gx, .int p0, .int p1, .int p2, .int p3, .int p4, .ref go]) ++ List.replicate (8 - (lg_sl ([.ref gx, .int p0, .int p1, .int p2, .int p3, .int p4, .ref go])).length) Slot.unset).toArray = ls at hl ⊢
  have hl : lv_has ls 8 [(0, .ref gx), (1, .int p0), (2, .int p1), (3, .int p2), (4, .int p3), (5, .int p4), (6, .ref go)] := hl
  refine lv_aload hx hb dL_feed_0 (lv_at hl 6 rfl) ?_
  refine lv_iconst (v := 0) hx hb dL_feed_2 (by decide) ?_
  refine lv_aload_n hx hb dL_feed_3 rfl (lv_at hl 0 rfl) ?_
  refine lv_iload_n hx hb dL_feed_4 rfl (lv_at hl 1 rfl) ?_
  refine lv_iload_n hx hb dL_feed_5 rfl (lv_at hl 2 rfl) ?_
  refine lv_iload_n hx hb dL_feed_6 rfl (lv_at hl 3 rfl) ?_
  refine lv_iload hx hb dL_feed_7 (lv_at hl 4 rfl) ?_
  refine lv_iload hx hb dL_feed_9 (lv_at hl 5 rfl) ?_
  have hPc := hP.sub (ws' := [(gx, .inr (11, [.ref gq1, .ref gq4, .ref gq13, .ref gq136, .ref gq137, .ref gq138, .ref gq172, .ref gq184, .ref gq150, .ref gq161, .int (-1)])), (gq1, .inr (0, [.ref gq2, .int 0, .int 0, .int 0, .int 0, .long 0, .int 0, .int 0])), (gq2, .inl (gc3, 1200, .inl (fun _ => 0)))]) [0, 1, 2] rfl
  have hDc := hD.sub (ws' := [(gx, .inr (11, [.ref gq1, .ref gq4, .ref gq13, .ref gq136, .ref gq137, .ref gq138, .ref gq172, .ref gq184, .ref gq150, .ref gq161, .int (-1)])), (gq1, .inr (0, [.ref gq2, .int 0, .int 0, .int 0, .int 0, .long 0, .int 0, .int 0])), (gq2, .inl (gc3, 1200, .inl (fun _ => 0)))]) [0, 1, 2] (by decide) rfl
  have hKc := hK.sub (tys' := [(gc3, .int)]) [0] rfl
  have hFc := va_free (wc := [(gx, .inr (11, [.ref gq1, .ref gq4, .ref gq13, .ref gq136, .ref gq137, .ref gq138, .ref gq172, .ref gq184, .ref gq150, .ref gq161, .int (-1)])), (gq1, .inr (0, [.ref gq2, .int 0, .int 0, .int 0, .int 0, .long 0, .int 0, .int 0])), (gq2, .inl (gc3, 1200, .inl (fun _ => 0)))]) hD hS hA [0, 1, 2] rfl
  refine va_calli (va_runV (As := [.int p0, .int p1, .int p2, .int p3, .int p4]) (rest := [.int 0, .ref go]) ⟨hx, hb, hml, hown, hts⟩ (kX11_feed l dC dI (gx := gx) (gq1 := gq1) (gq2 := gq2) (gc3 := gc3) (gq4 := gq4) (gq13 := gq13) (gq136 := gq136) (gq137 := gq137) (gq138 := gq138) (gq150 := gq150) (gq161 := gq161) (gq172 := gq172) (gq184 := gq184) (p0 := p0) (p1 := p1) (p2 := p2) (p3 := p3) (p4 := p4) (sz := _)) (cwV 5 hts (gi_V qw450 qw451 qw452 qw222 (gi_z qw449)) rfl rfl rfl (by decide +kernel) ⟨Nat.le_of_ble_eq_true rfl, Nat.le_of_ble_eq_true rfl⟩) ⟨PRE.blind, va_recv hKc hPc (ci := 11) (q0 := 0) rfl rfl, PRE.of hE hS hFc hPc hKc hDc⟩ rfl rfl hl.1 rfl (lv_room (Nat.le_of_ble_eq_true rfl)) dL_feed_11 ⟨Nat.le_of_ble_eq_true rfl, Nat.le_of_ble_eq_true rfl⟩) hS (fun q _ h => hFc q h) hFc (fun r1 u t H locs ht hvm hw hB hz1 hk1 hS => ?_)
  obtain ⟨hP, hD, hK⟩ := JOIN (wr := [(go, .inl (gk, 1, .inr (.inl (fun _ => 0))))]) hP hD hK [0, 1, 2] [3] [1] rfl rfl (by decide) (by decide) rfl hk1 hFc ht hvm hB
  have hP : va_P (dC, dI) cls [(go, .inl (gk, 1, .inr (.inl (fun _ => 0))))] H := hP
  have hD : va_D A [(go, .inl (gk, 1, .inr (.inl (fun _ => 0))))] := hD
  have hK : va_K (dC, dI) cls [(gk, .long)] s := hK
  refine W.widen (k := 0) (n := 0) (Nat.le_of_ble_eq_true rfl) (Nat.le_of_ble_eq_true rfl) ?_
  obtain rfl : r1 = 20 := hw
  refine lv_i2l (v := 20) hx hb dL_feed_14 (by decide) ?_
  refine va_last hx hb hK hP hD hS 0 0 rfl rfl (by unfold vp_in; decide +kernel) dL_feed_15 (fun H locs hP hD hS => ?_)
  have hP : va_P (dC, dI) cls [(go, .inl (gk, 1, .inr (.inl (vp_updL (fun _ => 0) (Int32.toNatClampNeg 0) 20))))] H := hP
  have hD : va_D A [(go, .inl (gk, 1, .inr (.inl (vp_updL (fun _ => 0) (Int32.toNatClampNeg 0) 20))))] := hD
  obtain ⟨f2, ef2⟩ : ∃ z, z = vp_updL (fun _ => 0) (Int32.toNatClampNeg 0) 20 := ⟨_, rfl⟩
  rw [← ef2] at hP hD
  have hf2 : f2 0 = 20 := by rw [ef2]; rfl
  refine lv_goto (tgt := 23) hx hb dL_feed_16 (by decide) ?_
  refine lv_iconst (v := 0) hx hb dL_feed_23 (by decide) ?_
  have hP9 : va_P (dC, dI) cls [(go, .inl (gk, 1, .inr (.inl f2)))] H := hP.sub [0] rfl
  have hD9 : va_D A [(go, .inl (gk, 1, .inr (.inl f2)))] := hD.sub [0] (by decide) rfl
  have hK9 : va_K (dC, dI) cls [(gk, .long)] s := hK.sub [0] rfl
  exact W.iret (v := 0) hx hb hr (fun t ht hW => ⟨⟨0, f2, rfl, ⟨rfl, hf2⟩, ⟨by rw [ht]; exact hP9, va_K.moved hW.alike hK9, hD9⟩⟩, hS.F ht⟩) hS.2.2 dL_feed_24
set_option maxHeartbeats 4000000 in
set_option maxRecDepth 100000 in
theorem kL_trim_a {zs : Nat × Nat} (l : Launch) (dC : Nat → ClassId) (dI : Nat → Nat → Nat) (gx : Nat) (gq1 : Nat) (gq4 : Nat) (gq13 : Nat) (gq136 : Nat) (gq137 : Nat) (gq138 : Nat) (gq150 : Nat) (gq161 : Nat) (gq172 : Nat) (gq184 : Nat) (go : Nat) (p0 : Int32) (sz : Nat) (hl9 : l.stackTraces = false) (h1 : p0 < 0) : Met l yL_trim (wh yL_trim cL_trim 4 (Option.some Jvm.ClassFile.FieldType.int) [(0, 9, 12, 19)]) ({ frames := 7, cells := 1, slots := 6, locals := 121 }) (va_Pc [.ref gx, .int p0, .ref go] (PRE zs dC dI [(gx, .inr (11, [.ref gq1, .ref gq4, .ref gq13, .ref gq136, .ref gq137, .ref gq138, .ref gq172, .ref gq184, .ref gq150, .ref gq161, .int (-1)]))] [] sz)) (va_Qi (fun (r : Int32) (_ : Unit) => r = 1) (fun _ t => POST dC dI [] [] (va_A [(gx, .inr (11, [.ref gq1, .ref gq4, .ref gq13, .ref gq136, .ref gq137, .ref gq138, .ref gq172, .ref gq184, .ref gq150, .ref gq161, .int (-1)]))] sz) t) (va_A [(gx, .inr (11, [.ref gq1, .ref gq4, .ref gq13, .ref gq136, .ref gq137, .ref gq138, .ref gq172, .ref gq184, .ref gq150, .ref gq161, .int (-1)]))] sz)) 1 6 (va_A [(gx, .inr (11, [.ref gq1, .ref gq4, .ref gq13, .ref gq136, .ref gq137, .ref gq138, .ref gq172, .ref gq184, .ref gq150, .ref gq161, .int (-1)]))] sz) := by
  refine va_MetW (cc := cL_trim) (maxL := 4) (ret := (Option.some Jvm.ClassFile.FieldType.int)) (hh := [(0, 9, 12, 19)]) (by decide) rfl ?_
  intro p e s m args below meth c s₁ B hml hv
  obtain ⟨rfl, hsz, hP, hK, hD0, hE⟩ := hv
  have hx := B.exec
  have hb := B.bytes
  have hr := B.returns
  have hts0 := atoms_spec (ws := wh yL_trim cL_trim 4 (Option.some Jvm.ClassFile.FieldType.int) [(0, 9, 12, 19)]) B.pre
  have htab := vx_table B (hts0 _ List.mem_cons_self)
  have hts : ∀ w ∈ gw, w.before _ s = true := fun w h => hts0 w (List.mem_cons_of_mem _ h)
  have hown : s.vm.findClass RL = some m.cls := findClass_of_methodNamed B.named
  have hlocks := B.notSynchronized
  subst hsz
  have hD := hD0.self (sz := s.heap.size)
  generalize hAe : va_A [(gx, .inr (11, [.ref gq1, .ref gq4, .ref gq13, .ref gq136, .ref gq137, .ref gq138, .ref gq172, .ref gq184, .ref gq150, .ref gq161, .int (-1)]))] s.heap.size = A at hD hE ⊢
  have hA : ∀ q : Nat, s.heap.size ≤ q → A q := fun q h => by rw [← hAe]; exact Or.inr h
  have hS : va_S A s.heap s.heap [] := va_S.rf
  have hP : va_P (dC, dI) cls [(gx, .inr (11, [.ref gq1, .ref gq4, .ref gq13, .ref gq136, .ref gq137, .ref gq138, .ref gq172, .ref gq184, .ref gq150, .ref gq161, .int (-1)]))] s.heap := hP
  have hl := lv_entry ([.ref gx, .int p0, .ref go]) (n := 4) (Nat.le_of_ble_eq_true rfl)
  rw [lg_entry_eq]
  generalize (lg_sl ([.ref gx, .int p0, .ref go]) ++ List.replicate (4 - (lg_sl ([.ref gx, .int p0, .ref go])).length) Slot.unset).toArray = ls at hl ⊢
  have hl : lv_has ls 4 [(0, .ref gx), (1, .int p0), (2, .ref go)] := hl
  refine lv_aload_n hx hb dL_trim_0 rfl (lv_at hl 2 rfl) ?_
  refine lv_iconst (v := 0) hx hb dL_trim_1 (by decide) ?_
  refine lv_aload_n hx hb dL_trim_2 rfl (lv_at hl 0 rfl) ?_
  refine lv_iload_n hx hb dL_trim_3 rfl (lv_at hl 1 rfl) ?_
  have hPc := hP.sub (ws' := [(gx, .inr (11, [.ref gq1, .ref gq4, .ref gq13, .ref gq136, .ref gq137, .ref gq138, .ref gq172, .ref gq184, .ref gq150, .ref gq161, .int (-1)]))]) [0] rfl
  have hDc := hD.sub (ws' := [(gx, .inr (11, [.ref gq1, .ref gq4, .ref gq13, .ref gq136, .ref gq137, .ref gq138, .ref gq172, .ref gq184, .ref gq150, .ref gq161, .int (-1)]))]) [0] (by decide) rfl
  have hKc := hK.sub (tys' := []) [] rfl
  have hFc := va_free (wc := [(gx, .inr (11, [.ref gq1, .ref gq4, .ref gq13, .ref gq136, .ref gq137, .ref gq138, .ref gq172, .ref gq184, .ref gq150, .ref gq161, .int (-1)]))]) hD hS hA [0] rfl
  refine vx_calli (vx_runV (As := [.int p0]) (rest := [.int 0, .ref go]) ⟨hx, hb, hml, hown, hts⟩ (kX11_trim_a l dC dI (gx := gx) (gq1 := gq1) (gq4 := gq4) (gq13 := gq13) (gq136 := gq136) (gq137 := gq137) (gq138 := gq138) (gq150 := gq150) (gq161 := gq161) (gq172 := gq172) (gq184 := gq184) (p0 := p0) (sz := _) (hl9 := hl9) (h1 := h1)) (cwV 1 hts (gi_V qw454 qw455 qw456 qw222 (gi_z qw453)) rfl rfl rfl (by decide +kernel) ⟨Nat.le_of_ble_eq_true rfl, Nat.le_of_ble_eq_true rfl⟩) ⟨PRE.blind, va_recv hKc hPc (ci := 11) (q0 := 0) rfl rfl, PRE.of hE hS hFc hPc hKc hDc⟩ rfl rfl hl.1 rfl (lv_room (Nat.le_of_ble_eq_true rfl)) dL_trim_4 ⟨Nat.le_of_ble_eq_true rfl, Nat.le_of_ble_eq_true rfl⟩) hS (fun q _ h => hFc q h) hFc (fun q _ h => hFc q h) (fun E ce q9 u t H locs ht hvm hw hB hz1 hk1 hS hce hcv hcl => ?_) (fun _ u t H locs ht hvm hw hB hz1 hk1 hS => hw.elim)
  obtain ⟨rfl, hB⟩ := hB
  obtain ⟨hP, hD, hK⟩ := JOIN (wr := []) hP hD hK [0] [] [] rfl rfl (by decide) (by decide) rfl hk1 hFc ht hvm hB
  have hP : va_P (dC, dI) cls [] H := hP
  have hD : va_D A [] := hD
  have hK : va_K (dC, dI) cls [] s := hK
  refine vx_widen (k := 1) (n := 6) (Nat.le_of_ble_eq_true rfl) (Nat.le_of_ble_eq_true rfl) ?_
  refine vx_catch (own := RL) (name := "java/lang/IllegalArgumentException") hown [] ⟨0, 9, 12, 19⟩ [] (htab.trans rfl) (fun z hz => by cases hz) (by decide) (by decide) (hts _ qw457) (hE.word (List.mem_append_right _ (tbl_5 (i := 1) rfl)) rfl) hce hcv hcl ?_
  refine lv_astore_n (lv' := [(3, .ref q9), (0, .ref gx), (1, .int p0), (2, .ref go)]) hx hb dL_trim_12 rfl hl (by decide) rfl (fun ls hl => ?_)
  refine lv_iconst (v := 1) hx hb dL_trim_13 (by decide) ?_
  have hP9 : va_P (dC, dI) cls [] H := hP.sub [] rfl
  have hD9 : va_D A [] := hD.sub [] (by decide) rfl
  have hK9 : va_K (dC, dI) cls [] s := hK.sub [] rfl
  exact W.iret (v := 1) hx hb hr (fun t ht hW => ⟨⟨1, (), rfl, rfl, ⟨by rw [ht]; exact hP9, va_K.moved hW.alike hK9, hD9⟩⟩, hS.F ht⟩) hS.2.2 dL_trim_14
set_option maxHeartbeats 4000000 in
set_option maxRecDepth 100000 in
theorem kL_trim_b {zs : Nat × Nat} (l : Launch) (dC : Nat → ClassId) (dI : Nat → Nat → Nat) (gx : Nat) (gq1 : Nat) (gq2 : Nat) (gq4 : Nat) (gq13 : Nat) (gq136 : Nat) (gq137 : Nat) (gq138 : Nat) (gq150 : Nat) (gq161 : Nat) (gq172 : Nat) (gq184 : Nat) (go : Nat) (p0 : Int32) (sz : Nat) (hl9 : l.stackTraces = false) (h1 : ¬ p0 < 0) (h2 : 0 < p0) : Met l yL_trim (wh yL_trim cL_trim 4 (Option.some Jvm.ClassFile.FieldType.int) [(0, 9, 12, 19)]) ({ frames := 7, cells := 1, slots := 6, locals := 121 }) (va_Pc [.ref gx, .int p0, .ref go] (PRE zs dC dI [(gx, .inr (11, [.ref gq1, .ref gq4, .ref gq13, .ref gq136, .ref gq137, .ref gq138, .ref gq172, .ref gq184, .ref gq150, .ref gq161, .int (-1)])), (gq1, .inr (0, [.ref gq2, .int 0, .int 0, .int 0, .int 0, .long 0, .int 0, .int 0]))] [] sz)) (va_Qi (fun (r : Int32) (_ : Unit) => r = 1) (fun _ t => POST dC dI [] [] (va_A [(gx, .inr (11, [.ref gq1, .ref gq4, .ref gq13, .ref gq136, .ref gq137, .ref gq138, .ref gq172, .ref gq184, .ref gq150, .ref gq161, .int (-1)])), (gq1, .inr (0, [.ref gq2, .int 0, .int 0, .int 0, .int 0, .long 0, .int 0, .int 0]))] sz) t) (va_A [(gx, .inr (11, [.ref gq1, .ref gq4, .ref gq13, .ref gq136, .ref gq137, .ref gq138, .ref gq172, .ref gq184, .ref gq150, .ref gq161, .int (-1)])), (gq1, .inr (0, [.ref gq2, .int 0, .int 0, .int 0, .int 0, .long 0, .int 0, .int 0]))] sz)) 1 6 (va_A [(gx, .inr (11, [.ref gq1, .ref gq4, .ref gq13, .ref gq136, .ref gq137, .ref gq138, .ref gq172, .ref gq184, .ref gq150, .ref gq161, .int (-1)])), (gq1, .inr (0, [.ref gq2, .int 0, .int 0, .int 0, .int 0, .long 0, .int 0, .int 0]))] sz) := by
  refine va_MetW (cc := cL_trim) (maxL := 4) (ret := (Option.some Jvm.ClassFile.FieldType.int)) (hh := [(0, 9, 12, 19)]) (by decide) rfl ?_
  intro p e s m args below meth c s₁ B hml hv
  obtain ⟨rfl, hsz, hP, hK, hD0, hE⟩ := hv
  have hx := B.exec
  have hb := B.bytes
  have hr := B.returns
  have hts0 := atoms_spec (ws := wh yL_trim cL_trim 4 (Option.some Jvm.ClassFile.FieldType.int) [(0, 9, 12, 19)]) B.pre
  have htab := vx_table B (hts0 _ List.mem_cons_self)
  have hts : ∀ w ∈ gw, w.before _ s = true := fun w h => hts0 w (List.mem_cons_of_mem _ h)
  have hown : s.vm.findClass RL = some m.cls := findClass_of_methodNamed B.named
  have hlocks := B.notSynchronized
  subst hsz
  have hD := hD0.self (sz := s.heap.size)
  generalize hAe : va_A [(gx, .inr (11, [.ref gq1, .ref gq4, .ref gq13, .ref gq136, .ref gq137, .ref gq138, .ref gq172, .ref gq184, .ref gq150, .ref gq161, .int (-1)])), (gq1, .inr (0, [.ref gq2, .int 0, .int 0, .int 0, .int 0, .long 0, .int 0, .int 0]))] s.heap.size = A at hD hE ⊢
  have hA : ∀ q : Nat, s.heap.size ≤ q → A q := fun q h => by rw [← hAe]; exact Or.inr h
  have hS : va_S A s.heap s.heap [] := va_S.rf
  have hP : va_P (dC, dI) cls [(gx, .inr (11, [.ref gq1, .ref gq4, .ref gq13, .ref gq136, .ref gq137, .ref gq138, .ref gq172, .ref gq184, .ref gq150, .ref gq161, .int (-1)])), (gq1, .inr (0, [.ref gq2, .int 0, .int 0, .int 0, .int 0, .long 0, .int 0, .int 0]))] s.heap := hP
  have hl := lv_entry ([.ref gx, .int p0, .ref go]) (n := 4) (Nat.le_of_ble_eq_true rfl)
  rw [lg_entry_eq]
  generalize (lg_sl ([.ref gx, .int p0, .ref go]) ++ List.replicate (4 - (lg_sl ([.ref gx, .int p0, .ref go])).length) Slot.unset).toArray = ls at hl ⊢
  have hl : lv_has ls 4 [(0, .ref gx), (1, .int p0), (2, .ref go)] := hl
  refine lv_aload_n hx hb dL_trim_0 rfl (lv_at hl 2 rfl) ?_
  refine lv_iconst (v := 0) hx hb dL_trim_1 (by decide) ?_
  refine lv_aload_n hx hb dL_trim_2 rfl (lv_at hl 0 rfl) ?_
  refine lv_iload_n hx hb dL_trim_3 rfl (lv_at hl 1 rfl) ?_
  have hPc := hP.sub (ws' := [(gx, .inr (11, [.ref gq1, .ref gq4, .ref gq13, .ref gq136, .ref gq137, .ref gq138, .ref gq172, .ref gq184, .ref gq150, .ref gq161, .int (-1)])), (gq1, .inr (0, [.ref gq2, .int 0, .int 0, .int 0, .int 0, .long 0, .int 0, .int 0]))]) [0, 1] rfl
  have hDc := hD.sub (ws' := [(gx, .inr (11, [.ref gq1, .ref gq4, .ref gq13, .ref gq136, .ref gq137, .ref gq138, .ref gq172, .ref gq184, .ref gq150, .ref gq161, .int (-1)])), (gq1, .inr (0, [.ref gq2, .int 0, .int 0, .int 0, .int 0, .long 0, .int 0, .int 0]))]) [0, 1] (by decide) rfl
  have hKc := hK.sub (tys' := []) [] rfl
  have hFc := va_free (wc := [(gx, .inr (11, [.ref gq1, .ref gq4, .ref gq13, .ref gq136, .ref gq137, .ref gq138, .ref gq172, .ref gq184, .ref gq150, .ref gq161, .int (-1)])), (gq1, .inr (0, [.ref gq2, .int 0, .int 0, .int 0, .int 0, .long 0, .int 0, .int 0]))]) hD hS hA [0, 1] rfl
  refine vx_calli (vx_runV (As := [.int p0]) (rest := [.int 0, .ref go]) ⟨hx, hb, hml, hown, hts⟩ (kX11_trim_b l dC dI (gx := gx) (gq1 := gq1) (gq2 := gq2) (gq4 := gq4) (gq13 := gq13) (gq136 := gq136) (gq137 := gq137) (gq138 := gq138) (gq150 := gq150) (gq161 := gq161) (gq172 := gq172) (gq184 := gq184) (p0 := p0) (sz := _) (hl9 := hl9) (h1 := h1) (h2 := h2)) (cwV 1 hts (gi_V qw454 qw455 qw456 qw222 (gi_z qw453)) rfl rfl rfl (by decide +kernel) ⟨Nat.le_of_ble_eq_true rfl, Nat.le_of_ble_eq_true rfl⟩) ⟨PRE.blind, va_recv hKc hPc (ci := 11) (q0 := 0) rfl rfl, PRE.of hE hS hFc hPc hKc hDc⟩ rfl rfl hl.1 rfl (lv_room (Nat.le_of_ble_eq_true rfl)) dL_trim_4 ⟨Nat.le_of_ble_eq_true rfl, Nat.le_of_ble_eq_true rfl⟩) hS (fun q _ h => hFc q h) hFc (fun q _ h => hFc q h) (fun E ce q9 u t H locs ht hvm hw hB hz1 hk1 hS hce hcv hcl => ?_) (fun _ u t H locs ht hvm hw hB hz1 hk1 hS => hw.elim)
  obtain ⟨rfl, hB⟩ := hB
  obtain ⟨hP, hD, hK⟩ := JOIN (wr := []) hP hD hK [0, 1] [] [] rfl rfl (by decide) (by decide) rfl hk1 hFc ht hvm hB
  have hP : va_P (dC, dI) cls [] H := hP
  have hD : va_D A [] := hD
  have hK : va_K (dC, dI) cls [] s := hK
  refine vx_widen (k := 1) (n := 6) (Nat.le_of_ble_eq_true rfl) (Nat.le_of_ble_eq_true rfl) ?_
  refine vx_catch (own := RL) (name := "java/lang/IllegalArgumentException") hown [] ⟨0, 9, 12, 19⟩ [] (htab.trans rfl) (fun z hz => by cases hz) (by decide) (by decide) (hts _ qw457) (hE.word (List.mem_append_right _ (tbl_5 (i := 1) rfl)) rfl) hce hcv hcl ?_
  refine lv_astore_n (lv' := [(3, .ref q9), (0, .ref gx), (1, .int p0), (2, .ref go)]) hx hb dL_trim_12 rfl hl (by decide) rfl (fun ls hl => ?_)
  refine lv_iconst (v := 1) hx hb dL_trim_13 (by decide) ?_
  have hP9 : va_P (dC, dI) cls [] H := hP.sub [] rfl
  have hD9 : va_D A [] := hD.sub [] (by decide) rfl
  have hK9 : va_K (dC, dI) cls [] s := hK.sub [] rfl
  exact W.iret (v := 1) hx hb hr (fun t ht hW => ⟨⟨1, (), rfl, rfl, ⟨by rw [ht]; exact hP9, va_K.moved hW.alike hK9, hD9⟩⟩, hS.F ht⟩) hS.2.2 dL_trim_14
set_option maxHeartbeats 4000000 in
set_option maxRecDepth 100000 in
theorem kL_trim_c {zs : Nat × Nat} (l : Launch) (dC : Nat → ClassId) (dI : Nat → Nat → Nat) (gx : Nat) (gq1 : Nat) (gq2 : Nat) (gq4 : Nat) (gq13 : Nat) (gq136 : Nat) (gq137 : Nat) (gq138 : Nat) (gq150 : Nat) (gq161 : Nat) (gq172 : Nat) (gq184 : Nat) (go : Nat) (gk : ClassId) (p0 : Int32) (sz : Nat) (h1 : ¬ p0 < 0) (h2 : ¬ 0 < p0) : Met l yL_trim (wh yL_trim cL_trim 4 (Option.some Jvm.ClassFile.FieldType.int) [(0, 9, 12, 19)]) ({ frames := 1, cells := 0, slots := 0, locals := 21 }) (va_Pc [.ref gx, .int p0, .ref go] (PRE zs dC dI [(gx, .inr (11, [.ref gq1, .ref gq4, .ref gq13, .ref gq136, .ref gq137, .ref gq138, .ref gq172, .ref gq184, .ref gq150, .ref gq161, .int (-1)])), (gq1, .inr (0, [.ref gq2, .int 0, .int 0, .int 0, .int 0, .long 0, .int 0, .int 0])), (go, .inl (gk, 1, .inr (.inl (fun _ => 0))))] [(gk, .long)] sz)) (va_Qi (fun (r : Int32) (u : Nat → Int64) => r = 0 ∧ u 0 = ((p0).toInt64)) (fun u t => POST dC dI [(go, .inl (gk, 1, .inr (.inl u)))] [(gk, .long)] (va_A [(gx, .inr (11, [.ref gq1, .ref gq4, .ref gq13, .ref gq136, .ref gq137, .ref gq138, .ref gq172, .ref gq184, .ref gq150, .ref gq161, .int (-1)])), (gq1, .inr (0, [.ref gq2, .int 0, .int 0, .int 0, .int 0, .long 0, .int 0, .int 0])), (go, .inl (gk, 1, .inr (.inl (fun _ => 0))))] sz) t) (va_A [(gx, .inr (11, [.ref gq1, .ref gq4, .ref gq13, .ref gq136, .ref gq137, .ref gq138, .ref gq172, .ref gq184, .ref gq150, .ref gq161, .int (-1)])), (gq1, .inr (0, [.ref gq2, .int 0, .int 0, .int 0, .int 0, .long 0, .int 0, .int 0])), (go, .inl (gk, 1, .inr (.inl (fun _ => 0))))] sz)) 0 0 (va_A [(gx, .inr (11, [.ref gq1, .ref gq4, .ref gq13, .ref gq136, .ref gq137, .ref gq138, .ref gq172, .ref gq184, .ref gq150, .ref gq161, .int (-1)])), (gq1, .inr (0, [.ref gq2, .int 0, .int 0, .int 0, .int 0, .long 0, .int 0, .int 0])), (go, .inl (gk, 1, .inr (.inl (fun _ => 0))))] sz) := by
  refine va_MetW (cc := cL_trim) (maxL := 4) (ret := (Option.some Jvm.ClassFile.FieldType.int)) (hh := [(0, 9, 12, 19)]) (by decide) rfl ?_
  intro p e s m args below meth c s₁ B hml hv
  obtain ⟨rfl, hsz, hP, hK, hD0, hE⟩ := hv
  have hx := B.exec
  have hb := B.bytes
  have hr := B.returns
  have hts0 := atoms_spec (ws := wh yL_trim cL_trim 4 (Option.some Jvm.ClassFile.FieldType.int) [(0, 9, 12, 19)]) B.pre
  have htab := vx_table B (hts0 _ List.mem_cons_self)
  have hts : ∀ w ∈ gw, w.before _ s = true := fun w h => hts0 w (List.mem_cons_of_mem _ h)
  have hown : s.vm.findClass RL = some m.cls := findClass_of_methodNamed B.named
  have hlocks := B.notSynchronized
  subst hsz
  have hD := hD0.self (sz := s.heap.size)
  generalize hAe : va_A [(gx, .inr (11, [.ref gq1, .ref gq4, .ref gq13, .ref gq136, .ref gq137, .ref gq138, .ref gq172, .ref gq184, .ref gq150, .ref gq161, .int (-1)])), (gq1, .inr (0, [.ref gq2, .int 0, .int 0, .int 0, .int 0, .long 0, .int 0, .int 0])), (go, .inl (gk, 1, .inr (.inl (fun _ => 0))))] s.heap.size = A at hD hE ⊢
  have hA : ∀ q : Nat, s.heap.size ≤ q → A q := fun q h => by rw [← hAe]; exact Or.inr h
  have hS : va_S A s.heap s.heap [] := va_S.rf
  have hP : va_P (dC, dI) cls [(gx, .inr (11, [.ref gq1, .ref gq4, .ref gq13, .ref gq136, .ref gq137, .ref gq138, .ref gq172, .ref gq184, .ref gq150, .ref gq161, .int (-1)])), (gq1, .inr (0, [.ref gq2, .int 0, .int 0, .int 0, .int 0, .long 0, .int 0, .int 0])), (go, .inl (gk, 1, .inr (.inl (fun _ => 0))))] s.heap := hP
  have hl := lv_entry ([.ref gx, .int p0, .ref go]) (n := 4) (Nat.le_of_ble_eq_true rfl)
  rw [lg_entry_eq]
  generalize (lg_sl ([.ref gx, .int p0, .ref go]) ++ List.replicate (4 - (lg_sl ([.ref gx, .int p0, .ref go])).length) Slot.unset).toArray = ls at hl ⊢
  have hl : lv_has ls 4 [(0, .ref gx), (1, .int p0), (2, .ref go)] := hl
  refine lv_aload_n hx hb dL_trim_0 rfl (lv_at hl 2 rfl) ?_
  refine lv_iconst (v := 0) hx hb dL_trim_1 (by decide) ?_
  refine lv_aload_n hx hb dL_trim_2 rfl (lv_at hl 0 rfl) ?_
  refine lv_iload_n hx hb dL_trim_3 rfl (lv_at hl 1 rfl) ?_
  have hPc := hP.sub (ws' := [(gx, .inr (11, [.ref gq1, .ref gq4, .ref gq13, .ref gq136, .ref gq137, .ref gq138, .ref gq172, .ref gq184, .ref gq150, .ref gq161, .int (-1)])), (gq1, .inr (0, [.ref gq2, .int 0, .int 0, .int 0, .int 0, .long 0, .int 0, .int 0]))]) [0, 1] rfl
  have hDc := hD.sub (ws' := [(gx, .inr (11, [.ref gq1, .ref gq4, .ref gq13, .ref gq136, .ref gq137, .ref gq138, .ref gq172, .ref gq184, .ref gq150, .ref gq161, .int (-1)])), (gq1, .inr (0, [.ref gq2, .int 0, .int 0, .int 0, .int 0, .long 0, .int 0, .int 0]))]) [0, 1] (by decide) rfl
  have hKc := hK.sub (tys' := []) [] rfl
  have hFc := va_free (wc := [(gx, .inr (11, [.ref gq1, .ref gq4, .ref gq13, .ref gq136, .ref gq137, .ref gq138, .ref gq172, .ref gq184, .ref gq150, .ref gq161, .int (-1)])), (gq1, .inr (0, [.ref gq2, .int 0, .int 0, .int 0, .int 0, .long 0, .int 0, .int 0]))]) hD hS hA [0, 1] rfl
  refine va_calli (va_runV (As := [.int p0]) (rest := [.int 0, .ref go]) ⟨hx, hb, hml, hown, hts⟩ (kX11_trim_c l dC dI (gx := gx) (gq1 := gq1) (gq2 := gq2) (gq4 := gq4) (gq13 := gq13) (gq136 := gq136) (gq137 := gq137) (gq138 := gq138) (gq150 := gq150) (gq161 := gq161) (gq172 := gq172) (gq184 := gq184) (p0 := p0) (sz := _) (h1 := h1) (h2 := h2)) (cwV 1 hts (gi_V qw454 qw455 qw456 qw222 (gi_z qw453)) rfl rfl rfl (by decide +kernel) ⟨Nat.le_of_ble_eq_true rfl, Nat.le_of_ble_eq_true rfl⟩) ⟨PRE.blind, va_recv hKc hPc (ci := 11) (q0 := 0) rfl rfl, PRE.of hE hS hFc hPc hKc hDc⟩ rfl rfl hl.1 rfl (lv_room (Nat.le_of_ble_eq_true rfl)) dL_trim_4 ⟨Nat.le_of_ble_eq_true rfl, Nat.le_of_ble_eq_true rfl⟩) hS (fun q _ h => hFc q h) hFc (fun r1 u t H locs ht hvm hw hB hz1 hk1 hS => ?_)
  obtain ⟨hP, hD, hK⟩ := JOIN (wr := [(go, .inl (gk, 1, .inr (.inl (fun _ => 0))))]) hP hD hK [0, 1] [2] [0] rfl rfl (by decide) (by decide) rfl hk1 hFc ht hvm hB
  have hP : va_P (dC, dI) cls [(go, .inl (gk, 1, .inr (.inl (fun _ => 0))))] H := hP
  have hD : va_D A [(go, .inl (gk, 1, .inr (.inl (fun _ => 0))))] := hD
  have hK : va_K (dC, dI) cls [(gk, .long)] s := hK
  refine W.widen (k := 0) (n := 0) (Nat.le_of_ble_eq_true rfl) (Nat.le_of_ble_eq_true rfl) ?_
  obtain rfl : r1 = p0 := hw
  refine lv_i2l (v := (p0).toInt64) hx hb dL_trim_7 rfl ?_
  refine va_last hx hb hK hP hD hS 0 0 rfl rfl (by unfold vp_in; decide +kernel) dL_trim_8 (fun H locs hP hD hS => ?_)
  have hP : va_P (dC, dI) cls [(go, .inl (gk, 1, .inr (.inl (vp_updL (fun _ => 0) (Int32.toNatClampNeg 0) ((p0).toInt64)))))] H := hP
  have hD : va_D A [(go, .inl (gk, 1, .inr (.inl (vp_updL (fun _ => 0) (Int32.toNatClampNeg 0) ((p0).toInt64)))))] := hD
  obtain ⟨f2, ef2⟩ : ∃ z, z = vp_updL (fun _ => 0) (Int32.toNatClampNeg 0) ((p0).toInt64) := ⟨_, rfl⟩
  rw [← ef2] at hP hD
  have hf2 : f2 0 = ((p0).toInt64) := by rw [ef2]; rfl
  refine lv_goto (tgt := 15) hx hb dL_trim_9 (by decide) ?_
  refine lv_iconst (v := 0) hx hb dL_trim_15 (by decide) ?_
  have hP9 : va_P (dC, dI) cls [(go, .inl (gk, 1, .inr (.inl f2)))] H := hP.sub [0] rfl
  have hD9 : va_D A [(go, .inl (gk, 1, .inr (.inl f2)))] := hD.sub [0] (by decide) rfl
  have hK9 : va_K (dC, dI) cls [(gk, .long)] s := hK.sub [0] rfl
  exact W.iret (v := 0) hx hb hr (fun t ht hW => ⟨⟨0, f2, rfl, ⟨rfl, hf2⟩, ⟨by rw [ht]; exact hP9, va_K.moved hW.alike hK9, hD9⟩⟩, hS.F ht⟩) hS.2.2 dL_trim_16
set_option maxHeartbeats 4000000 in
set_option maxRecDepth 100000 in
theorem kL_parametersOf {zs : Nat × Nat} (l : Launch) (dC : Nat → ClassId) (dI : Nat → Nat → Nat) (gx : Nat) (gq1 : Nat) (gq4 : Nat) (gq13 : Nat) (gq136 : Nat) (gq137 : Nat) (gq138 : Nat) (gq150 : Nat) (gq151 : Nat) (gq152 : Nat) (gq153 : Nat) (gq154 : Nat) (gq155 : Nat) (gq156 : Nat) (gq157 : Nat) (gq158 : Nat) (gq159 : Nat) (gq160 : Nat) (gq161 : Nat) (gq172 : Nat) (gq184 : Nat) (go : Nat) (p0 : Int32) (sz : Nat) (hl9 : l.stackTraces = false)  : Met l yL_parametersOf (wh yL_parametersOf cL_parametersOf 4 (Option.some Jvm.ClassFile.FieldType.int) [(0, 9, 12, 24)]) ({ frames := 8, cells := 1, slots := 6, locals := 142 }) (va_Pc [.ref gx, .int p0, .ref go] (PRE zs dC dI [(gx, .inr (11, [.ref gq1, .ref gq4, .ref gq13, .ref gq136, .ref gq137, .ref gq138, .ref gq172, .ref gq184, .ref gq150, .ref gq161, .int (-1)])), (gq150, .inr (2, [.int 0, .ref gq151, .ref gq152, .ref gq153, .ref gq154, .ref gq155, .ref gq156, .int 0, .ref gq157, .ref gq158, .ref gq159, .int 0, .ref gq160]))] [] sz)) (va_Qi (fun (r : Int32) (_ : Unit) => r = 1) (fun _ t => POST dC dI [] [] (va_A [(gx, .inr (11, [.ref gq1, .ref gq4, .ref gq13, .ref gq136, .ref gq137, .ref gq138, .ref gq172, .ref gq184, .ref gq150, .ref gq161, .int (-1)])), (gq150, .inr (2, [.int 0, .ref gq151, .ref gq152, .ref gq153, .ref gq154, .ref gq155, .ref gq156, .int 0, .ref gq157, .ref gq158, .ref gq159, .int 0, .ref gq160]))] sz) t) (va_A [(gx, .inr (11, [.ref gq1, .ref gq4, .ref gq13, .ref gq136, .ref gq137, .ref gq138, .ref gq172, .ref gq184, .ref gq150, .ref gq161, .int (-1)])), (gq150, .inr (2, [.int 0, .ref gq151, .ref gq152, .ref gq153, .ref gq154, .ref gq155, .ref gq156, .int 0, .ref gq157, .ref gq158, .ref gq159, .int 0, .ref gq160]))] sz)) 1 6 (va_A [(gx, .inr (11, [.ref gq1, .ref gq4, .ref gq13, .ref gq136, .ref gq137, .ref gq138, .ref gq172, .ref gq184, .ref gq150, .ref gq161, .int (-1)])), (gq150, .inr (2, [.int 0, .ref gq151, .ref gq152, .ref gq153, .ref gq154, .ref gq155, .ref gq156, .int 0, .ref gq157, .ref gq158, .ref gq159, .int 0, .ref gq160]))] sz) := by
  refine va_MetW (cc := cL_parametersOf) (maxL := 4) (ret := (Option.some Jvm.ClassFile.FieldType.int)) (hh := [(0, 9, 12, 24)]) (by decide) rfl ?_
  intro p e s m args below meth c s₁ B hml hv
  obtain ⟨rfl, hsz, hP, hK, hD0, hE⟩ := hv
  have hx := B.exec
  have hb := B.bytes
  have hr := B.returns
  have hts0 := atoms_spec (ws := wh yL_parametersOf cL_parametersOf 4 (Option.some Jvm.ClassFile.FieldType.int) [(0, 9, 12, 24)]) B.pre
  have htab := vx_table B (hts0 _ List.mem_cons_self)
  have hts : ∀ w ∈ gw, w.before _ s = true := fun w h => hts0 w (List.mem_cons_of_mem _ h)
  have hown : s.vm.findClass RL = some m.cls := findClass_of_methodNamed B.named
  have hlocks := B.notSynchronized
  subst hsz
  have hD := hD0.self (sz := s.heap.size)
  generalize hAe : va_A [(gx, .inr (11, [.ref gq1, .ref gq4, .ref gq13, .ref gq136, .ref gq137, .ref gq138, .ref gq172, .ref gq184, .ref gq150, .ref gq161, .int (-1)])), (gq150, .inr (2, [.int 0, .ref gq151, .ref gq152, .ref gq153, .ref gq154, .ref gq155, .ref gq156, .int 0, .ref gq157, .ref gq158, .ref gq159, .int 0, .ref gq160]))] s.heap.size = A at hD hE ⊢
  have hA : ∀ q : Nat, s.heap.size ≤ q → A q := fun q h => by rw [← hAe]; exact Or.inr h
  have hS : va_S A s.heap s.heap [] := va_S.rf
  have hP : va_P (dC, dI) cls [(gx, .inr (11, [.ref gq1, .ref gq4, .ref gq13, .ref gq136, .ref gq137, .ref gq138, .ref gq172, .ref gq184, .ref gq150, .ref gq161, .int (-1)])), (gq150, .inr (2, [.int 0, .ref gq151, .ref gq152, .ref gq153, .ref gq154, .ref gq155, .ref gq156, .int 0, .ref gq157, .ref gq158, .ref gq159, .int 0, .ref gq160]))] s.heap := hP
  have hl := lv_entry ([.ref gx, .int p0, .ref go]) (n := 4) (Nat.le_of_ble_eq_true rfl)
  rw [lg_entry_eq]
  generalize (lg_sl ([.ref gx, .int p0, .ref go]) ++ List.replicate (4 - (lg_sl ([.ref gx, .int p0, .ref go])).length) Slot.unset).toArray = ls at hl ⊢
  have hl : lv_has ls 4 [(0, .ref gx), (1, .int p0), (2, .ref go)] := hl
  refine lv_aload_n hx hb dL_parametersOf_0 rfl (lv_at hl 2 rfl) ?_
  refine lv_iconst (v := 0) hx hb dL_parametersOf_1 (by decide) ?_
  refine lv_aload_n hx hb dL_parametersOf_2 rfl (lv_at hl 0 rfl) ?_
  refine lv_iload_n hx hb dL_parametersOf_3 rfl (lv_at hl 1 rfl) ?_
  have hPc := hP.sub (ws' := [(gx, .inr (11, [.ref gq1, .ref gq4, .ref gq13, .ref gq136, .ref gq137, .ref gq138, .ref gq172, .ref gq184, .ref gq150, .ref gq161, .int (-1)])), (gq150, .inr (2, [.int 0, .ref gq151, .ref gq152, .ref gq153, .ref gq154, .ref gq155, .ref gq156, .int 0, .ref gq157, .ref gq158, .ref gq159, .int 0, .ref gq160]))]) [0, 1] rfl
  have hDc := hD.sub (ws' := [(gx, .inr (11, [.ref gq1, .ref gq4, .ref gq13, .ref gq136, .ref gq137, .ref gq138, .ref gq172, .ref gq184, .ref gq150, .ref gq161, .int (-1)])), (gq150, .inr (2, [.int 0, .ref gq151, .ref gq152, .ref gq153, .ref gq154, .ref gq155, .ref gq156, .int 0, .ref gq157, .ref gq158, .ref gq159, .int 0, .ref gq160]))]) [0, 1] (by decide) rfl
  have hKc := hK.sub (tys' := []) [] rfl
  have hFc := va_free (wc := [(gx, .inr (11, [.ref gq1, .ref gq4, .ref gq13, .ref gq136, .ref gq137, .ref gq138, .ref gq172, .ref gq184, .ref gq150, .ref gq161, .int (-1)])), (gq150, .inr (2, [.int 0, .ref gq151, .ref gq152, .ref gq153, .ref gq154, .ref gq155, .ref gq156, .int 0, .ref gq157, .ref gq158, .ref gq159, .int 0, .ref gq160]))]) hD hS hA [0, 1] rfl
  refine vx_calli (vx_runV (As := [.int p0]) (rest := [.int 0, .ref go]) ⟨hx, hb, hml, hown, hts⟩ (kX11_parametersOf l dC dI (gx := gx) (gq1 := gq1) (gq4 := gq4) (gq13 := gq13) (gq136 := gq136) (gq137 := gq137) (gq138 := gq138) (gq150 := gq150) (gq151 := gq151) (gq152 := gq152) (gq153 := gq153) (gq154 := gq154) (gq155 := gq155) (gq156 := gq156) (gq157 := gq157) (gq158 := gq158) (gq159 := gq159) (gq160 := gq160) (gq161 := gq161) (gq172 := gq172) (gq184 := gq184) (p0 := p0) (sz := _) (hl9 := hl9)) (cwV 1 hts (gi_V qw459 qw460 qw461 qw222 (gi_z qw458)) rfl rfl rfl (by decide +kernel) ⟨Nat.le_of_ble_eq_true rfl, Nat.le_of_ble_eq_true rfl⟩) ⟨PRE.blind, va_recv hKc hPc (ci := 11) (q0 := 0) rfl rfl, PRE.of hE hS hFc hPc hKc hDc⟩ rfl rfl hl.1 rfl (lv_room (Nat.le_of_ble_eq_true rfl)) dL_parametersOf_4 ⟨Nat.le_of_ble_eq_true rfl, Nat.le_of_ble_eq_true rfl⟩) hS (fun q _ h => hFc q h) hFc (fun q _ h => hFc q h) (fun E ce q9 u t H locs ht hvm hw hB hz1 hk1 hS hce hcv hcl => ?_) (fun _ u t H locs ht hvm hw hB hz1 hk1 hS => hw.elim)
  obtain ⟨rfl, hB⟩ := hB
  obtain ⟨hP, hD, hK⟩ := JOIN (wr := []) hP hD hK [0, 1] [] [] rfl rfl (by decide) (by decide) rfl hk1 hFc ht hvm hB
  have hP : va_P (dC, dI) cls [] H := hP
  have hD : va_D A [] := hD
  have hK : va_K (dC, dI) cls [] s := hK
  refine vx_widen (k := 1) (n := 6) (Nat.le_of_ble_eq_true rfl) (Nat.le_of_ble_eq_true rfl) ?_
  refine vx_catch (own := RL) (name := "java/lang/IndexOutOfBoundsException") hown [] ⟨0, 9, 12, 24⟩ [] (htab.trans rfl) (fun z hz => by cases hz) (by decide) (by decide) (hts _ qw462) (hE.word (List.mem_append_right _ (tbl_9 (i := 38) rfl)) rfl) hce hcv hcl ?_
  refine lv_astore_n (lv' := [(3, .ref q9), (0, .ref gx), (1, .int p0), (2, .ref go)]) hx hb dL_parametersOf_12 rfl hl (by decide) rfl (fun ls hl => ?_)
  refine lv_iconst (v := 1) hx hb dL_parametersOf_13 (by decide) ?_
  have hP9 : va_P (dC, dI) cls [] H := hP.sub [] rfl
  have hD9 : va_D A [] := hD.sub [] (by decide) rfl
  have hK9 : va_K (dC, dI) cls [] s := hK.sub [] rfl
  exact W.iret (v := 1) hx hb hr (fun t ht hW => ⟨⟨1, (), rfl, rfl, ⟨by rw [ht]; exact hP9, va_K.moved hW.alike hK9, hD9⟩⟩, hS.F ht⟩) hS.2.2 dL_parametersOf_14
set_option maxHeartbeats 4000000 in
set_option maxRecDepth 100000 in
theorem kL_blocks {zs : Nat × Nat} (l : Launch) (dC : Nat → ClassId) (dI : Nat → Nat → Nat) (gx : Nat) (gq1 : Nat) (gq4 : Nat) (gq13 : Nat) (gq136 : Nat) (gq137 : Nat) (gq138 : Nat) (gq150 : Nat) (gq151 : Nat) (gq152 : Nat) (gq153 : Nat) (gq154 : Nat) (gq155 : Nat) (gq156 : Nat) (gq157 : Nat) (gq158 : Nat) (gq159 : Nat) (gq160 : Nat) (gq161 : Nat) (gq172 : Nat) (gq184 : Nat) (go : Nat) (p0 : Int32) (sz : Nat) (hl9 : l.stackTraces = false)  : Met l yL_blocks (wh yL_blocks cL_blocks 4 (Option.some Jvm.ClassFile.FieldType.int) [(0, 9, 12, 24)]) ({ frames := 8, cells := 1, slots := 6, locals := 142 }) (va_Pc [.ref gx, .int p0, .ref go] (PRE zs dC dI [(gx, .inr (11, [.ref gq1, .ref gq4, .ref gq13, .ref gq136, .ref gq137, .ref gq138, .ref gq172, .ref gq184, .ref gq150, .ref gq161, .int (-1)])), (gq150, .inr (2, [.int 0, .ref gq151, .ref gq152, .ref gq153, .ref gq154, .ref gq155, .ref gq156, .int 0, .ref gq157, .ref gq158, .ref gq159, .int 0, .ref gq160]))] [] sz)) (va_Qi (fun (r : Int32) (_ : Unit) => r = 1) (fun _ t => POST dC dI [] [] (va_A [(gx, .inr (11, [.ref gq1, .ref gq4, .ref gq13, .ref gq136, .ref gq137, .ref gq138, .ref gq172, .ref gq184, .ref gq150, .ref gq161, .int (-1)])), (gq150, .inr (2, [.int 0, .ref gq151, .ref gq152, .ref gq153, .ref gq154, .ref gq155, .ref gq156, .int 0, .ref gq157, .ref gq158, .ref gq159, .int 0, .ref gq160]))] sz) t) (va_A [(gx, .inr (11, [.ref gq1, .ref gq4, .ref gq13, .ref gq136, .ref gq137, .ref gq138, .ref gq172, .ref gq184, .ref gq150, .ref gq161, .int (-1)])), (gq150, .inr (2, [.int 0, .ref gq151, .ref gq152, .ref gq153, .ref gq154, .ref gq155, .ref gq156, .int 0, .ref gq157, .ref gq158, .ref gq159, .int 0, .ref gq160]))] sz)) 1 6 (va_A [(gx, .inr (11, [.ref gq1, .ref gq4, .ref gq13, .ref gq136, .ref gq137, .ref gq138, .ref gq172, .ref gq184, .ref gq150, .ref gq161, .int (-1)])), (gq150, .inr (2, [.int 0, .ref gq151, .ref gq152, .ref gq153, .ref gq154, .ref gq155, .ref gq156, .int 0, .ref gq157, .ref gq158, .ref gq159, .int 0, .ref gq160]))] sz) := by
  refine va_MetW (cc := cL_blocks) (maxL := 4) (ret := (Option.some Jvm.ClassFile.FieldType.int)) (hh := [(0, 9, 12, 24)]) (by decide) rfl ?_
  intro p e s m args below meth c s₁ B hml hv
  obtain ⟨rfl, hsz, hP, hK, hD0, hE⟩ := hv
  have hx := B.exec
  have hb := B.bytes
  have hr := B.returns
  have hts0 := atoms_spec (ws := wh yL_blocks cL_blocks 4 (Option.some Jvm.ClassFile.FieldType.int) [(0, 9, 12, 24)]) B.pre
  have htab := vx_table B (hts0 _ List.mem_cons_self)
  have hts : ∀ w ∈ gw, w.before _ s = true := fun w h => hts0 w (List.mem_cons_of_mem _ h)
  have hown : s.vm.findClass RL = some m.cls := findClass_of_methodNamed B.named
  have hlocks := B.notSynchronized
  subst hsz
  have hD := hD0.self (sz := s.heap.size)
  generalize hAe : va_A [(gx, .inr (11, [.ref gq1, .ref gq4, .ref gq13, .ref gq136, .ref gq137, .ref gq138, .ref gq172, .ref gq184, .ref gq150, .ref gq161, .int (-1)])), (gq150, .inr (2, [.int 0, .ref gq151, .ref gq152, .ref gq153, .ref gq154, .ref gq155, .ref gq156, .int 0, .ref gq157, .ref gq158, .ref gq159, .int 0, .ref gq160]))] s.heap.size = A at hD hE ⊢
  have hA : ∀ q : Nat, s.heap.size ≤ q → A q := fun q h => by rw [← hAe]; exact Or.inr h
  have hS : va_S A s.heap s.heap [] := va_S.rf
  have hP : va_P (dC, dI) cls [(gx, .inr (11, [.ref gq1, .ref gq4, .ref gq13, .ref gq136, .ref gq137, .ref gq138, .ref gq172, .ref gq184, .ref gq150, .ref gq161, .int (-1)])), (gq150, .inr (2, [.int 0, .ref gq151, .ref gq152, .ref gq153, .ref gq154, .ref gq155, .ref gq156, .int 0, .ref gq157, .ref gq158, .ref gq159, .int 0, .ref gq160]))] s.heap := hP
  have hl := lv_entry ([.ref gx, .int p0, .ref go]) (n := 4) (Nat.le_of_ble_eq_true rfl)
  rw [lg_entry_eq]
  generalize (lg_sl ([.ref gx, .int p0, .ref go]) ++ List.replicate (4 - (lg_sl ([.ref gx, .int p0, .ref go])).length) Slot.unset).toArray = ls at hl ⊢
  have hl : lv_has ls 4 [(0, .ref gx), (1, .int p0), (2, .ref go)] := hl
  refine lv_aload_n hx hb dL_blocks_0 rfl (lv_at hl 2 rfl) ?_
  refine lv_iconst (v := 0) hx hb dL_blocks_1 (by decide) ?_
  refine lv_aload_n hx hb dL_blocks_2 rfl (lv_at hl 0 rfl) ?_
  refine lv_iload_n hx hb dL_blocks_3 rfl (lv_at hl 1 rfl) ?_
  have hPc := hP.sub (ws' := [(gx, .inr (11, [.ref gq1, .ref gq4, .ref gq13, .ref gq136, .ref gq137, .ref gq138, .ref gq172, .ref gq184, .ref gq150, .ref gq161, .int (-1)])), (gq150, .inr (2, [.int 0, .ref gq151, .ref gq152, .ref gq153, .ref gq154, .ref gq155, .ref gq156, .int 0, .ref gq157, .ref gq158, .ref gq159, .int 0, .ref gq160]))]) [0, 1] rfl
  have hDc := hD.sub (ws' := [(gx, .inr (11, [.ref gq1, .ref gq4, .ref gq13, .ref gq136, .ref gq137, .ref gq138, .ref gq172, .ref gq184, .ref gq150, .ref gq161, .int (-1)])), (gq150, .inr (2, [.int 0, .ref gq151, .ref gq152, .ref gq153, .ref gq154, .ref gq155, .ref gq156, .int 0, .ref gq157, .ref gq158, .ref gq159, .int 0, .ref gq160]))]) [0, 1] (by decide) rfl
  have hKc := hK.sub (tys' := []) [] rfl
  have hFc := va_free (wc := [(gx, .inr (11, [.ref gq1, .ref gq4, .ref gq13, .ref gq136, .ref gq137, .ref gq138, .ref gq172, .ref gq184, .ref gq150, .ref gq161, .int (-1)])), (gq150, .inr (2, [.int 0, .ref gq151, .ref gq152, .ref gq153, .ref gq154, .ref gq155, .ref gq156, .int 0, .ref gq157, .ref gq158, .ref gq159, .int 0, .ref gq160]))]) hD hS hA [0, 1] rfl
  refine vx_calli (vx_runV (As := [.int p0]) (rest := [.int 0, .ref go]) ⟨hx, hb, hml, hown, hts⟩ (kX11_blocks l dC dI (gx := gx) (gq1 := gq1) (gq4 := gq4) (gq13 := gq13) (gq136 := gq136) (gq137 := gq137) (gq138 := gq138) (gq150 := gq150) (gq151 := gq151) (gq152 := gq152) (gq153 := gq153) (gq154 := gq154) (gq155 := gq155) (gq156 := gq156) (gq157 := gq157) (gq158 := gq158) (gq159 := gq159) (gq160 := gq160) (gq161 := gq161) (gq172 := gq172) (gq184 := gq184) (p0 := p0) (sz := _) (hl9 := hl9)) (cwV 1 hts (gi_V qw464 qw465 qw466 qw222 (gi_z qw463)) rfl rfl rfl (by decide +kernel) ⟨Nat.le_of_ble_eq_true rfl, Nat.le_of_ble_eq_true rfl⟩) ⟨PRE.blind, va_recv hKc hPc (ci := 11) (q0 := 0) rfl rfl, PRE.of hE hS hFc hPc hKc hDc⟩ rfl rfl hl.1 rfl (lv_room (Nat.le_of_ble_eq_true rfl)) dL_blocks_4 ⟨Nat.le_of_ble_eq_true rfl, Nat.le_of_ble_eq_true rfl⟩) hS (fun q _ h => hFc q h) hFc (fun q _ h => hFc q h) (fun E ce q9 u t H locs ht hvm hw hB hz1 hk1 hS hce hcv hcl => ?_) (fun _ u t H locs ht hvm hw hB hz1 hk1 hS => hw.elim)
  obtain ⟨rfl, hB⟩ := hB
  obtain ⟨hP, hD, hK⟩ := JOIN (wr := []) hP hD hK [0, 1] [] [] rfl rfl (by decide) (by decide) rfl hk1 hFc ht hvm hB
  have hP : va_P (dC, dI) cls [] H := hP
  have hD : va_D A [] := hD
  have hK : va_K (dC, dI) cls [] s := hK
  refine vx_widen (k := 1) (n := 6) (Nat.le_of_ble_eq_true rfl) (Nat.le_of_ble_eq_true rfl) ?_
  refine vx_catch (own := RL) (name := "java/lang/IndexOutOfBoundsException") hown [] ⟨0, 9, 12, 24⟩ [] (htab.trans rfl) (fun z hz => by cases hz) (by decide) (by decide) (hts _ qw462) (hE.word (List.mem_append_right _ (tbl_9 (i := 38) rfl)) rfl) hce hcv hcl ?_
  refine lv_astore_n (lv' := [(3, .ref q9), (0, .ref gx), (1, .int p0), (2, .ref go)]) hx hb dL_blocks_12 rfl hl (by decide) rfl (fun ls hl => ?_)
  refine lv_iconst (v := 1) hx hb dL_blocks_13 (by decide) ?_
  have hP9 : va_P (dC, dI) cls [] H := hP.sub [] rfl
  have hD9 : va_D A [] := hD.sub [] (by decide) rfl
  have hK9 : va_K (dC, dI) cls [] s := hK.sub [] rfl
  exact W.iret (v := 1) hx hb hr (fun t ht hW => ⟨⟨1, (), rfl, rfl, ⟨by rw [ht]; exact hP9, va_K.moved hW.alike hK9, hD9⟩⟩, hS.F ht⟩) hS.2.2 dL_blocks_14
set_option maxHeartbeats 4000000 in
set_option maxRecDepth 100000 in
theorem kL_values {zs : Nat × Nat} (l : Launch) (dC : Nat → ClassId) (dI : Nat → Nat → Nat) (gx : Nat) (gq1 : Nat) (gq4 : Nat) (gq13 : Nat) (gq136 : Nat) (gq137 : Nat) (gq138 : Nat) (gq150 : Nat) (gq151 : Nat) (gq152 : Nat) (gq153 : Nat) (gq154 : Nat) (gq155 : Nat) (gq156 : Nat) (gq157 : Nat) (gq158 : Nat) (gq159 : Nat) (gq160 : Nat) (gq161 : Nat) (gq172 : Nat) (gq184 : Nat) (go : Nat) (p0 : Int32) (sz : Nat) (hl9 : l.stackTraces = false)  : Met l yL_values (wh yL_values cL_values 4 (Option.some Jvm.ClassFile.FieldType.int) [(0, 9, 12, 24)]) ({ frames := 8, cells := 1, slots := 6, locals := 142 }) (va_Pc [.ref gx, .int p0, .ref go] (PRE zs dC dI [(gx, .inr (11, [.ref gq1, .ref gq4, .ref gq13, .ref gq136, .ref gq137, .ref gq138, .ref gq172, .ref gq184, .ref gq150, .ref gq161, .int (-1)])), (gq150, .inr (2, [.int 0, .ref gq151, .ref gq152, .ref gq153, .ref gq154, .ref gq155, .ref gq156, .int 0, .ref gq157, .ref gq158, .ref gq159, .int 0, .ref gq160]))] [] sz)) (va_Qi (fun (r : Int32) (_ : Unit) => r = 1) (fun _ t => POST dC dI [] [] (va_A [(gx, .inr (11, [.ref gq1, .ref gq4, .ref gq13, .ref gq136, .ref gq137, .ref gq138, .ref gq172, .ref gq184, .ref gq150, .ref gq161, .int (-1)])), (gq150, .inr (2, [.int 0, .ref gq151, .ref gq152, .ref gq153, .ref gq154, .ref gq155, .ref gq156, .int 0, .ref gq157, .ref gq158, .ref gq159, .int 0, .ref gq160]))] sz) t) (va_A [(gx, .inr (11, [.ref gq1, .ref gq4, .ref gq13, .ref gq136, .ref gq137, .ref gq138, .ref gq172, .ref gq184, .ref gq150, .ref gq161, .int (-1)])), (gq150, .inr (2, [.int 0, .ref gq151, .ref gq152, .ref gq153, .ref gq154, .ref gq155, .ref gq156, .int 0, .ref gq157, .ref gq158, .ref gq159, .int 0, .ref gq160]))] sz)) 1 6 (va_A [(gx, .inr (11, [.ref gq1, .ref gq4, .ref gq13, .ref gq136, .ref gq137, .ref gq138, .ref gq172, .ref gq184, .ref gq150, .ref gq161, .int (-1)])), (gq150, .inr (2, [.int 0, .ref gq151, .ref gq152, .ref gq153, .ref gq154, .ref gq155, .ref gq156, .int 0, .ref gq157, .ref gq158, .ref gq159, .int 0, .ref gq160]))] sz) := by
  refine va_MetW (cc := cL_values) (maxL := 4) (ret := (Option.some Jvm.ClassFile.FieldType.int)) (hh := [(0, 9, 12, 24)]) (by decide) rfl ?_
  intro p e s m args below meth c s₁ B hml hv
  obtain ⟨rfl, hsz, hP, hK, hD0, hE⟩ := hv
  have hx := B.exec
  have hb := B.bytes
  have hr := B.returns
  have hts0 := atoms_spec (ws := wh yL_values cL_values 4 (Option.some Jvm.ClassFile.FieldType.int) [(0, 9, 12, 24)]) B.pre
  have htab := vx_table B (hts0 _ List.mem_cons_self)
  have hts : ∀ w ∈ gw, w.before _ s = true := fun w h => hts0 w (List.mem_cons_of_mem _ h)
  have hown : s.vm.findClass RL = some m.cls := findClass_of_methodNamed B.named
  have hlocks := B.notSynchronized
  subst hsz
  have hD := hD0.self (sz := s.heap.size)
  generalize hAe : va_A [(gx, .inr (11, [.ref gq1, .ref gq4, .ref gq13, .ref gq136, .ref gq137, .ref gq138, .ref gq172, .ref gq184, .ref gq150, .ref gq161, .int (-1)])), (gq150, .inr (2, [.int 0, .ref gq151, .ref gq152, .ref gq153, .ref gq154, .ref gq155, .ref gq156, .int 0, .ref gq157, .ref gq158, .ref gq159, .int 0, .ref gq160]))] s.heap.size = A at hD hE ⊢
  have hA : ∀ q : Nat, s.heap.size ≤ q → A q := fun q h => by rw [← hAe]; exact Or.inr h
  have hS : va_S A s.heap s.heap [] := va_S.rf
  have hP : va_P (dC, dI) cls [(gx, .inr (11, [.ref gq1, .ref gq4, .ref gq13, .ref gq136, .ref gq137, .ref gq138, .ref gq172, .ref gq184, .ref gq150, .ref gq161, .int (-1)])), (gq150, .inr (2, [.int 0, .ref gq151, .ref gq152, .ref gq153, .ref gq154, .ref gq155, .ref gq156, .int 0, .ref gq157, .ref gq158, .ref gq159, .int 0, .ref gq160]))] s.heap := hP
  have hl := lv_entry ([.ref gx, .int p0, .ref go]) (n := 4) (Nat.le_of_ble_eq_true rfl)
  rw [lg_entry_eq]
  generalize (lg_sl ([.ref gx, .int p0, .ref go]) ++ List.replicate (4 - (lg_sl ([.ref gx, .int p0, .ref go])).length) Slot.unset).toArray = ls at hl ⊢
  have hl : lv_has ls 4 [(0, .ref gx), (1, .int p0), (2, .ref go)] := hl
  refine lv_aload_n hx hb dL_values_0 rfl (lv_at hl 2 rfl) ?_
  refine lv_iconst (v := 0) hx hb dL_values_1 (by decide) ?_
  refine lv_aload_n hx hb dL_values_2 rfl (lv_at hl 0 rfl) ?_
  refine lv_iload_n hx hb dL_values_3 rfl (lv_at hl 1 rfl) ?_
  have hPc := hP.sub (ws' := [(gx, .inr (11, [.ref gq1, .ref gq4, .ref gq13, .ref gq136, .ref gq137, .ref gq138, .ref gq172, .ref gq184, .ref gq150, .ref gq161, .int (-1)])), (gq150, .inr (2, [.int 0, .ref gq151, .ref gq152, .ref gq153, .ref gq154, .ref gq155, .ref gq156, .int 0, .ref gq157, .ref gq158, .ref gq159, .int 0, .ref gq160]))]) [0, 1] rfl
  have hDc := hD.sub (ws' := [(gx, .inr (11, [.ref gq1, .ref gq4, .ref gq13, .ref gq136, .ref gq137, .ref gq138, .ref gq172, .ref gq184, .ref gq150, .ref gq161, .int (-1)])), (gq150, .inr (2, [.int 0, .ref gq151, .ref gq152, .ref gq153, .ref gq154, .ref gq155, .ref gq156, .int 0, .ref gq157, .ref gq158, .ref gq159, .int 0, .ref gq160]))]) [0, 1] (by decide) rfl
  have hKc := hK.sub (tys' := []) [] rfl
  have hFc := va_free (wc := [(gx, .inr (11, [.ref gq1, .ref gq4, .ref gq13, .ref gq136, .ref gq137, .ref gq138, .ref gq172, .ref gq184, .ref gq150, .ref gq161, .int (-1)])), (gq150, .inr (2, [.int 0, .ref gq151, .ref gq152, .ref gq153, .ref gq154, .ref gq155, .ref gq156, .int 0, .ref gq157, .ref gq158, .ref gq159, .int 0, .ref gq160]))]) hD hS hA [0, 1] rfl
  refine vx_calli (vx_runV (As := [.int p0]) (rest := [.int 0, .ref go]) ⟨hx, hb, hml, hown, hts⟩ (kX11_values l dC dI (gx := gx) (gq1 := gq1) (gq4 := gq4) (gq13 := gq13) (gq136 := gq136) (gq137 := gq137) (gq138 := gq138) (gq150 := gq150) (gq151 := gq151) (gq152 := gq152) (gq153 := gq153) (gq154 := gq154) (gq155 := gq155) (gq156 := gq156) (gq157 := gq157) (gq158 := gq158) (gq159 := gq159) (gq160 := gq160) (gq161 := gq161) (gq172 := gq172) (gq184 := gq184) (p0 := p0) (sz := _) (hl9 := hl9)) (cwV 1 hts (gi_V qw468 qw469 qw470 qw222 (gi_z qw467)) rfl rfl rfl (by decide +kernel) ⟨Nat.le_of_ble_eq_true rfl, Nat.le_of_ble_eq_true rfl⟩) ⟨PRE.blind, va_recv hKc hPc (ci := 11) (q0 := 0) rfl rfl, PRE.of hE hS hFc hPc hKc hDc⟩ rfl rfl hl.1 rfl (lv_room (Nat.le_of_ble_eq_true rfl)) dL_values_4 ⟨Nat.le_of_ble_eq_true rfl, Nat.le_of_ble_eq_true rfl⟩) hS (fun q _ h => hFc q h) hFc (fun q _ h => hFc q h) (fun E ce q9 u t H locs ht hvm hw hB hz1 hk1 hS hce hcv hcl => ?_) (fun _ u t H locs ht hvm hw hB hz1 hk1 hS => hw.elim)
  obtain ⟨rfl, hB⟩ := hB
  obtain ⟨hP, hD, hK⟩ := JOIN (wr := []) hP hD hK [0, 1] [] [] rfl rfl (by decide) (by decide) rfl hk1 hFc ht hvm hB
  have hP : va_P (dC, dI) cls [] H := hP
  have hD : va_D A [] := hD
  have hK : va_K (dC, dI) cls [] s := hK
  refine vx_widen (k := 1) (n := 6) (Nat.le_of_ble_eq_true rfl) (Nat.le_of_ble_eq_true rfl) ?_
  refine vx_catch (own := RL) (name := "java/lang/IndexOutOfBoundsException") hown [] ⟨0, 9, 12, 24⟩ [] (htab.trans rfl) (fun z hz => by cases hz) (by decide) (by decide) (hts _ qw462) (hE.word (List.mem_append_right _ (tbl_9 (i := 38) rfl)) rfl) hce hcv hcl ?_
  refine lv_astore_n (lv' := [(3, .ref q9), (0, .ref gx), (1, .int p0), (2, .ref go)]) hx hb dL_values_12 rfl hl (by decide) rfl (fun ls hl => ?_)
  refine lv_iconst (v := 1) hx hb dL_values_13 (by decide) ?_
  have hP9 : va_P (dC, dI) cls [] H := hP.sub [] rfl
  have hD9 : va_D A [] := hD.sub [] (by decide) rfl
  have hK9 : va_K (dC, dI) cls [] s := hK.sub [] rfl
  exact W.iret (v := 1) hx hb hr (fun t ht hW => ⟨⟨1, (), rfl, rfl, ⟨by rw [ht]; exact hP9, va_K.moved hW.alike hK9, hD9⟩⟩, hS.F ht⟩) hS.2.2 dL_values_14
set_option maxHeartbeats 4000000 in
set_option maxRecDepth 100000 in
theorem kL_blockOf {zs : Nat × Nat} (l : Launch) (dC : Nat → ClassId) (dI : Nat → Nat → Nat) (gx : Nat) (gq1 : Nat) (gq4 : Nat) (gq13 : Nat) (gq136 : Nat) (gq137 : Nat) (gq138 : Nat) (gq150 : Nat) (gq151 : Nat) (gq152 : Nat) (gq153 : Nat) (gq154 : Nat) (gq155 : Nat) (gq156 : Nat) (gq157 : Nat) (gq158 : Nat) (gq159 : Nat) (gq160 : Nat) (gq161 : Nat) (gq172 : Nat) (gq184 : Nat) (go : Nat) (p0 : Int32) (p1 : Int32) (sz : Nat) (hl9 : l.stackTraces = false)  : Met l yL_blockOf (wh yL_blockOf cL_blockOf 5 (Option.some Jvm.ClassFile.FieldType.int) [(0, 10, 13, 24)]) ({ frames := 8, cells := 1, slots := 6, locals := 143 }) (va_Pc [.ref gx, .int p0, .int p1, .ref go] (PRE zs dC dI [(gx, .inr (11, [.ref gq1, .ref gq4, .ref gq13, .ref gq136, .ref gq137, .ref gq138, .ref gq172, .ref gq184, .ref gq150, .ref gq161, .int (-1)])), (gq150, .inr (2, [.int 0, .ref gq151, .ref gq152, .ref gq153, .ref gq154, .ref gq155, .ref gq156, .int 0, .ref gq157, .ref gq158, .ref gq159, .int 0, .ref gq160]))] [] sz)) (va_Qi (fun (r : Int32) (_ : Unit) => r = 1) (fun _ t => POST dC dI [] [] (va_A [(gx, .inr (11, [.ref gq1, .ref gq4, .ref gq13, .ref gq136, .ref gq137, .ref gq138, .ref gq172, .ref gq184, .ref gq150, .ref gq161, .int (-1)])), (gq150, .inr (2, [.int 0, .ref gq151, .ref gq152, .ref gq153, .ref gq154, .ref gq155, .ref gq156, .int 0, .ref gq157, .ref gq158, .ref gq159, .int 0, .ref gq160]))] sz) t) (va_A [(gx, .inr (11, [.ref gq1, .ref gq4, .ref gq13, .ref gq136, .ref gq137, .ref gq138, .ref gq172, .ref gq184, .ref gq150, .ref gq161, .int (-1)])), (gq150, .inr (2, [.int 0, .ref gq151, .ref gq152, .ref gq153, .ref gq154, .ref gq155, .ref gq156, .int 0, .ref gq157, .ref gq158, .ref gq159, .int 0, .ref gq160]))] sz)) 1 6 (va_A [(gx, .inr (11, [.ref gq1, .ref gq4, .ref gq13, .ref gq136, .ref gq137, .ref gq138, .ref gq172, .ref gq184, .ref gq150, .ref gq161, .int (-1)])), (gq150, .inr (2, [.int 0, .ref gq151, .ref gq152, .ref gq153, .ref gq154, .ref gq155, .ref gq156, .int 0, .ref gq157, .ref gq158, .ref gq159, .int 0, .ref gq160]))] sz) := by
  refine va_MetW (cc := cL_blockOf) (maxL := 5) (ret := (Option.some Jvm.ClassFile.FieldType.int)) (hh := [(0, 10, 13, 24)]) (by decide) rfl ?_
  intro p e s m args below meth c s₁ B hml hv
  obtain ⟨rfl, hsz, hP, hK, hD0, hE⟩ := hv
  have hx := B.exec
  have hb := B.bytes
  have hr := B.returns
  have hts0 := atoms_spec (ws := wh yL_blockOf cL_blockOf 5 (Option.some Jvm.ClassFile.FieldType.int) [(0, 10, 13, 24)]) B.pre
  have htab := vx_table B (hts0 _ List.mem_cons_self)
  have hts : ∀ w ∈ gw, w.before _ s = true := fun w h => hts0 w (List.mem_cons_of_mem _ h)
  have hown : s.vm.findClass RL = some m.cls := findClass_of_methodNamed B.named
  have hlocks := B.notSynchronized
  subst hsz
  have hD := hD0.self (sz := s.heap.size)
  generalize hAe : va_A [(gx, .inr (11, [.ref gq1, .ref gq4, .ref gq13, .ref gq136, .ref gq137, .ref gq138, .ref gq172, .ref gq184, .ref gq150, .ref gq161, .int (-1)])), (gq150, .inr (2, [.int 0, .ref gq151, .ref gq152, .ref gq153, .ref gq154, .ref gq155, .ref gq156, .int 0, .ref gq157, .ref gq158, .ref gq159, .int 0, .ref gq160]))] s.heap.size = A at hD hE ⊢
  have hA : ∀ q : Nat, s.heap.size ≤ q → A q := fun q h => by rw [← hAe]; exact Or.inr h
  have hS : va_S A s.heap s.heap [] := va_S.rf
  have hP : va_P (dC, dI) cls [(gx, .inr (11, [.ref gq1, .ref gq4, .ref gq13, .ref gq136, .ref gq137, .ref gq138, .ref gq172, .ref gq184, .ref gq150, .ref gq161, .int (-1)])), (gq150, .inr (2, [.int 0, .ref gq151, .ref gq152, .ref gq153, .ref gq154, .ref gq155, .ref gq156, .int 0, .ref gq157, .ref gq158, .ref gq159, .int 0, .ref gq160]))] s.heap := hP
  have hl := lv_entry ([.ref gx, .int p0, .int p1, .ref go]) (n := 5) (Nat.le_of_ble_eq_true rfl)
  rw [lg_entry_eq]
  generalize (lg_sl ([.ref gx, .int p0, .int p1, .ref go]) ++ List.replicate (5 - (lg_sl ([.ref gx, .int p0, .int p1, .ref go])).length) Slot.unset).toArray = ls at hl ⊢
  have hl : lv_has ls 5 [(0, .ref gx), (1, .int p0), (2, .int p1), (3, .ref go)] := hl
  refine lv_aload_n hx hb dL_blockOf_0 rfl (lv_at hl 3 rfl) ?_
  refine lv_iconst (v := 0) hx hb dL_blockOf_1 (by decide) ?_
  refine lv_aload_n hx hb dL_blockOf_2 rfl (lv_at hl 0 rfl) ?_
  refine lv_iload_n hx hb dL_blockOf_3 rfl (lv_at hl 1 rfl) ?_
  refine lv_iload_n hx hb dL_blockOf_4 rfl (lv_at hl 2 rfl) ?_
  have hPc := hP.sub (ws' := [(gx, .inr (11, [.ref gq1, .ref gq4, .ref gq13, .ref gq136, .ref gq137, .ref gq138, .ref gq172, .ref gq184, .ref gq150, .ref gq161, .int (-1)])), (gq150, .inr (2, [.int 0, .ref gq151, .ref gq152, .ref gq153, .ref gq154, .ref gq155, .ref gq156, .int 0, .ref gq157, .ref gq158, .ref gq159, .int 0, .ref gq160]))]) [0, 1] rfl
  have hDc := hD.sub (ws' := [(gx, .inr (11, [.ref gq1, .ref gq4, .ref gq13, .ref gq136, .ref gq137, .ref gq138, .ref gq172, .ref gq184, .ref gq150, .ref gq161, .int (-1)])), (gq150, .inr (2, [.int 0, .ref gq151, .ref gq152, .ref gq153, .ref gq154, .ref gq155, .ref gq156, .int 0, .ref gq157, .ref gq158, .ref gq159, .int 0, .ref gq160]))]) [0, 1] (by decide) rfl
  have hKc := hK.sub (tys' := []) [] rfl
  have hFc := va_free (wc := [(gx, .inr (11, [.ref gq1, .ref gq4, .ref gq13, .ref gq136, .ref gq137, .ref gq138, .ref gq172, .ref gq184, .ref gq150, .ref gq161, .int (-1)])), (gq150, .inr (2, [.int 0, .ref gq151, .ref gq152, .ref gq153, .ref gq154, .ref gq155, .ref gq156, .int 0, .ref gq157, .ref gq158, .ref gq159, .int 0, .ref gq160]))]) hD hS hA [0, 1] rfl
  refine vx_calli (vx_runV (As := [.int p0, .int p1]) (rest := [.int 0, .ref go]) ⟨hx, hb, hml, hown, hts⟩ (kX11_blockOf l dC dI (gx := gx) (gq1 := gq1) (gq4 := gq4) (gq13 := gq13) (gq136 := gq136) (gq137 := gq137) (gq138 := gq138) (gq150 := gq150) (gq151 := gq151) (gq152 := gq152) (gq153 := gq153) (gq154 := gq154) (gq155 := gq155) (gq156 := gq156) (gq157 := gq157) (gq158 := gq158) (gq159 := gq159) (gq160 := gq160) (gq161 := gq161) (gq172 := gq172) (gq184 := gq184) (p0 := p0) (p1 := p1) (sz := _) (hl9 := hl9)) (cwV 2 hts (gi_V qw472 qw473 qw474 qw222 (gi_z qw471)) rfl rfl rfl (by decide +kernel) ⟨Nat.le_of_ble_eq_true rfl, Nat.le_of_ble_eq_true rfl⟩) ⟨PRE.blind, va_recv hKc hPc (ci := 11) (q0 := 0) rfl rfl, PRE.of hE hS hFc hPc hKc hDc⟩ rfl rfl hl.1 rfl (lv_room (Nat.le_of_ble_eq_true rfl)) dL_blockOf_5 ⟨Nat.le_of_ble_eq_true rfl, Nat.le_of_ble_eq_true rfl⟩) hS (fun q _ h => hFc q h) hFc (fun q _ h => hFc q h) (fun E ce q9 u t H locs ht hvm hw hB hz1 hk1 hS hce hcv hcl => ?_) (fun _ u t H locs ht hvm hw hB hz1 hk1 hS => hw.elim)
  obtain ⟨rfl, hB⟩ := hB
  obtain ⟨hP, hD, hK⟩ := JOIN (wr := []) hP hD hK [0, 1] [] [] rfl rfl (by decide) (by decide) rfl hk1 hFc ht hvm hB
  have hP : va_P (dC, dI) cls [] H := hP
  have hD : va_D A [] := hD
  have hK : va_K (dC, dI) cls [] s := hK
  refine vx_widen (k := 1) (n := 6) (Nat.le_of_ble_eq_true rfl) (Nat.le_of_ble_eq_true rfl) ?_
  refine vx_catch (own := RL) (name := "java/lang/IndexOutOfBoundsException") hown [] ⟨0, 10, 13, 24⟩ [] (htab.trans rfl) (fun z hz => by cases hz) (by decide) (by decide) (hts _ qw462) (hE.word (List.mem_append_right _ (tbl_9 (i := 38) rfl)) rfl) hce hcv hcl ?_
  refine lv_astore (lv' := [(4, .ref q9), (0, .ref gx), (1, .int p0), (2, .int p1), (3, .ref go)]) hx hb dL_blockOf_13 hl (by decide) rfl (fun ls hl => ?_)
  refine lv_iconst (v := 1) hx hb dL_blockOf_15 (by decide) ?_
  have hP9 : va_P (dC, dI) cls [] H := hP.sub [] rfl
  have hD9 : va_D A [] := hD.sub [] (by decide) rfl
  have hK9 : va_K (dC, dI) cls [] s := hK.sub [] rfl
  exact W.iret (v := 1) hx hb hr (fun t ht hW => ⟨⟨1, (), rfl, rfl, ⟨by rw [ht]; exact hP9, va_K.moved hW.alike hK9, hD9⟩⟩, hS.F ht⟩) hS.2.2 dL_blockOf_16
set_option maxHeartbeats 4000000 in
set_option maxRecDepth 100000 in
theorem kL_dominatorOf {zs : Nat × Nat} (l : Launch) (dC : Nat → ClassId) (dI : Nat → Nat → Nat) (gx : Nat) (gq1 : Nat) (gq4 : Nat) (gq13 : Nat) (gq136 : Nat) (gq137 : Nat) (gq138 : Nat) (gq150 : Nat) (gq151 : Nat) (gq152 : Nat) (gq153 : Nat) (gq154 : Nat) (gq155 : Nat) (gq156 : Nat) (gq157 : Nat) (gq158 : Nat) (gq159 : Nat) (gq160 : Nat) (gq161 : Nat) (gq172 : Nat) (gq184 : Nat) (go : Nat) (p0 : Int32) (p1 : Int32) (sz : Nat) (hl9 : l.stackTraces = false)  : Met l yL_dominatorOf (wh yL_dominatorOf cL_dominatorOf 5 (Option.some Jvm.ClassFile.FieldType.int) [(0, 10, 13, 24)]) ({ frames := 9, cells := 1, slots := 6, locals := 165 }) (va_Pc [.ref gx, .int p0, .int p1, .ref go] (PRE zs dC dI [(gx, .inr (11, [.ref gq1, .ref gq4, .ref gq13, .ref gq136, .ref gq137, .ref gq138, .ref gq172, .ref gq184, .ref gq150, .ref gq161, .int (-1)])), (gq150, .inr (2, [.int 0, .ref gq151, .ref gq152, .ref gq153, .ref gq154, .ref gq155, .ref gq156, .int 0, .ref gq157, .ref gq158, .ref gq159, .int 0, .ref gq160]))] [] sz)) (va_Qi (fun (r : Int32) (_ : Unit) => r = 1) (fun _ t => POST dC dI [] [] (va_A [(gx, .inr (11, [.ref gq1, .ref gq4, .ref gq13, .ref gq136, .ref gq137, .ref gq138, .ref gq172, .ref gq184, .ref gq150, .ref gq161, .int (-1)])), (gq150, .inr (2, [.int 0, .ref gq151, .ref gq152, .ref gq153, .ref gq154, .ref gq155, .ref gq156, .int 0, .ref gq157, .ref gq158, .ref gq159, .int 0, .ref gq160]))] sz) t) (va_A [(gx, .inr (11, [.ref gq1, .ref gq4, .ref gq13, .ref gq136, .ref gq137, .ref gq138, .ref gq172, .ref gq184, .ref gq150, .ref gq161, .int (-1)])), (gq150, .inr (2, [.int 0, .ref gq151, .ref gq152, .ref gq153, .ref gq154, .ref gq155, .ref gq156, .int 0, .ref gq157, .ref gq158, .ref gq159, .int 0, .ref gq160]))] sz)) 1 6 (va_A [(gx, .inr (11, [.ref gq1, .ref gq4, .ref gq13, .ref gq136, .ref gq137, .ref gq138, .ref gq172, .ref gq184, .ref gq150, .ref gq161, .int (-1)])), (gq150, .inr (2, [.int 0, .ref gq151, .ref gq152, .ref gq153, .ref gq154, .ref gq155, .ref gq156, .int 0, .ref gq157, .ref gq158, .ref gq159, .int 0, .ref gq160]))] sz) := by
  refine va_MetW (cc := cL_dominatorOf) (maxL := 5) (ret := (Option.some Jvm.ClassFile.FieldType.int)) (hh := [(0, 10, 13, 24)]) (by decide) rfl ?_
  intro p e s m args below meth c s₁ B hml hv
  obtain ⟨rfl, hsz, hP, hK, hD0, hE⟩ := hv
  have hx := B.exec
  have hb := B.bytes
  have hr := B.returns
  have hts0 := atoms_spec (ws := wh yL_dominatorOf cL_dominatorOf 5 (Option.some Jvm.ClassFile.FieldType.int) [(0, 10, 13, 24)]) B.pre
  have htab := vx_table B (hts0 _ List.mem_cons_self)
  have hts : ∀ w ∈ gw, w.before _ s = true := fun w h => hts0 w (List.mem_cons_of_mem _ h)
  have hown : s.vm.findClass RL = some m.cls := findClass_of_methodNamed B.named
  have hlocks := B.notSynchronized
  subst hsz
  have hD := hD0.self (sz := s.heap.size)
  generalize hAe : va_A [(gx, .inr (11, [.ref gq1, .ref gq4, .ref gq13, .ref gq136, .ref gq137, .ref gq138, .ref gq172, .ref gq184, .ref gq150, .ref gq161, .int (-1)])), (gq150, .inr (2, [.int 0, .ref gq151, .ref gq152, .ref gq153, .ref gq154, .ref gq155, .ref gq156, .int 0, .ref gq157, .ref gq158, .ref gq159, .int 0, .ref gq160]))] s.heap.size = A at hD hE ⊢
  have hA : ∀ q : Nat, s.heap.size ≤ q → A q := fun q h => by rw [← hAe]; exact Or.inr h
  have hS : va_S A s.heap s.heap [] := va_S.rf
  have hP : va_P (dC, dI) cls [(gx, .inr (11, [.ref gq1, .ref gq4, .ref gq13, .ref gq136, .ref gq137, .ref gq138, .ref gq172, .ref gq184, .ref gq150, .ref gq161, .int (-1)])), (gq150, .inr (2, [.int 0, .ref gq151, .ref gq152, .ref gq153, .ref gq154, .ref gq155, .ref gq156, .int 0, .ref gq157, .ref gq158, .ref gq159, .int 0, .ref gq160]))] s.heap := hP
  have hl := lv_entry ([.ref gx, .int p0, .int p1, .ref go]) (n := 5) (Nat.le_of_ble_eq_true rfl)
  rw [lg_entry_eq]
  generalize (lg_sl ([.ref gx, .int p0, .int p1, .ref go]) ++ List.replicate (5 - (lg_sl ([.ref gx, .int p0, .int p1, .ref go])).length) Slot.unset).toArray = ls at hl ⊢
  have hl : lv_has ls 5 [(0, .ref gx), (1, .int p0), (2, .int p1), (3, .ref go)] := hl
  refine lv_aload_n hx hb dL_dominatorOf_0 rfl (lv_at hl 3 rfl) ?_
  refine lv_iconst (v := 0) hx hb dL_dominatorOf_1 (by decide) ?_
  refine lv_aload_n hx hb dL_dominatorOf_2 rfl (lv_at hl 0 rfl) ?_
  refine lv_iload_n hx hb dL_dominatorOf_3 rfl (lv_at hl 1 rfl) ?_
  refine lv_iload_n hx hb dL_dominatorOf_4 rfl (lv_at hl 2 rfl) ?_
  have hPc := hP.sub (ws' := [(gx, .inr (11, [.ref gq1, .ref gq4, .ref gq13, .ref gq136, .ref gq137, .ref gq138, .ref gq172, .ref gq184, .ref gq150, .ref gq161, .int (-1)])), (gq150, .inr (2, [.int 0, .ref gq151, .ref gq152, .ref gq153, .ref gq154, .ref gq155, .ref gq156, .int 0, .ref gq157, .ref gq158, .ref gq159, .int 0, .ref gq160]))]) [0, 1] rfl
  have hDc := hD.sub (ws' := [(gx, .inr (11, [.ref gq1, .ref gq4, .ref gq13, .ref gq136, .ref gq137, .ref gq138, .ref gq172, .ref gq184, .ref gq150, .ref gq161, .int (-1)])), (gq150, .inr (2, [.int 0, .ref gq151, .ref gq152, .ref gq153, .ref gq154, .ref gq155, .ref gq156, .int 0, .ref gq157, .ref gq158, .ref gq159, .int 0, .ref gq160]))]) [0, 1] (by decide) rfl
  have hKc := hK.sub (tys' := []) [] rfl
  have hFc := va_free (wc := [(gx, .inr (11, [.ref gq1, .ref gq4, .ref gq13, .ref gq136, .ref gq137, .ref gq138, .ref gq172, .ref gq184, .ref gq150, .ref gq161, .int (-1)])), (gq150, .inr (2, [.int 0, .ref gq151, .ref gq152, .ref gq153, .ref gq154, .ref gq155, .ref gq156, .int 0, .ref gq157, .ref gq158, .ref gq159, .int 0, .ref gq160]))]) hD hS hA [0, 1] rfl
  refine vx_calli (vx_runV (As := [.int p0, .int p1]) (rest := [.int 0, .ref go]) ⟨hx, hb, hml, hown, hts⟩ (kX11_dominatorOf l dC dI (gx := gx) (gq1 := gq1) (gq4 := gq4) (gq13 := gq13) (gq136 := gq136) (gq137 := gq137) (gq138 := gq138) (gq150 := gq150) (gq151 := gq151) (gq152 := gq152) (gq153 := gq153) (gq154 := gq154) (gq155 := gq155) (gq156 := gq156) (gq157 := gq157) (gq158 := gq158) (gq159 := gq159) (gq160 := gq160) (gq161 := gq161) (gq172 := gq172) (gq184 := gq184) (p0 := p0) (p1 := p1) (sz := _) (hl9 := hl9)) (cwV 2 hts (gi_V qw476 qw477 qw478 qw222 (gi_z qw475)) rfl rfl rfl (by decide +kernel) ⟨Nat.le_of_ble_eq_true rfl, Nat.le_of_ble_eq_true rfl⟩) ⟨PRE.blind, va_recv hKc hPc (ci := 11) (q0 := 0) rfl rfl, PRE.of hE hS hFc hPc hKc hDc⟩ rfl rfl hl.1 rfl (lv_room (Nat.le_of_ble_eq_true rfl)) dL_dominatorOf_5 ⟨Nat.le_of_ble_eq_true rfl, Nat.le_of_ble_eq_true rfl⟩) hS (fun q _ h => hFc q h) hFc (fun q _ h => hFc q h) (fun E ce q9 u t H locs ht hvm hw hB hz1 hk1 hS hce hcv hcl => ?_) (fun _ u t H locs ht hvm hw hB hz1 hk1 hS => hw.elim)
  obtain ⟨rfl, hB⟩ := hB
  obtain ⟨hP, hD, hK⟩ := JOIN (wr := []) hP hD hK [0, 1] [] [] rfl rfl (by decide) (by decide) rfl hk1 hFc ht hvm hB
  have hP : va_P (dC, dI) cls [] H := hP
  have hD : va_D A [] := hD
  have hK : va_K (dC, dI) cls [] s := hK
  refine vx_widen (k := 1) (n := 6) (Nat.le_of_ble_eq_true rfl) (Nat.le_of_ble_eq_true rfl) ?_
  refine vx_catch (own := RL) (name := "java/lang/IndexOutOfBoundsException") hown [] ⟨0, 10, 13, 24⟩ [] (htab.trans rfl) (fun z hz => by cases hz) (by decide) (by decide) (hts _ qw462) (hE.word (List.mem_append_right _ (tbl_9 (i := 38) rfl)) rfl) hce hcv hcl ?_
  refine lv_astore (lv' := [(4, .ref q9), (0, .ref gx), (1, .int p0), (2, .int p1), (3, .ref go)]) hx hb dL_dominatorOf_13 hl (by decide) rfl (fun ls hl => ?_)
  refine lv_iconst (v := 1) hx hb dL_dominatorOf_15 (by decide) ?_
  have hP9 : va_P (dC, dI) cls [] H := hP.sub [] rfl
  have hD9 : va_D A [] := hD.sub [] (by decide) rfl
  have hK9 : va_K (dC, dI) cls [] s := hK.sub [] rfl
  exact W.iret (v := 1) hx hb hr (fun t ht hW => ⟨⟨1, (), rfl, rfl, ⟨by rw [ht]; exact hP9, va_K.moved hW.alike hK9, hD9⟩⟩, hS.F ht⟩) hS.2.2 dL_dominatorOf_16
set_option maxHeartbeats 4000000 in
set_option maxRecDepth 100000 in
theorem kL_depthOf {zs : Nat × Nat} (l : Launch) (dC : Nat → ClassId) (dI : Nat → Nat → Nat) (gx : Nat) (gq1 : Nat) (gq4 : Nat) (gq13 : Nat) (gq136 : Nat) (gq137 : Nat) (gq138 : Nat) (gq150 : Nat) (gq151 : Nat) (gq152 : Nat) (gq153 : Nat) (gq154 : Nat) (gq155 : Nat) (gq156 : Nat) (gq157 : Nat) (gq158 : Nat) (gq159 : Nat) (gq160 : Nat) (gq161 : Nat) (gq172 : Nat) (gq184 : Nat) (go : Nat) (p0 : Int32) (p1 : Int32) (sz : Nat) (hl9 : l.stackTraces = false)  : Met l yL_depthOf (wh yL_depthOf cL_depthOf 5 (Option.some Jvm.ClassFile.FieldType.int) [(0, 10, 13, 24)]) ({ frames := 9, cells := 1, slots := 6, locals := 165 }) (va_Pc [.ref gx, .int p0, .int p1, .ref go] (PRE zs dC dI [(gx, .inr (11, [.ref gq1, .ref gq4, .ref gq13, .ref gq136, .ref gq137, .ref gq138, .ref gq172, .ref gq184, .ref gq150, .ref gq161, .int (-1)])), (gq150, .inr (2, [.int 0, .ref gq151, .ref gq152, .ref gq153, .ref gq154, .ref gq155, .ref gq156, .int 0, .ref gq157, .ref gq158, .ref gq159, .int 0, .ref gq160]))] [] sz)) (va_Qi (fun (r : Int32) (_ : Unit) => r = 1) (fun _ t => POST dC dI [] [] (va_A [(gx, .inr (11, [.ref gq1, .ref gq4, .ref gq13, .ref gq136, .ref gq137, .ref gq138, .ref gq172, .ref gq184, .ref gq150, .ref gq161, .int (-1)])), (gq150, .inr (2, [.int 0, .ref gq151, .ref gq152, .ref gq153, .ref gq154, .ref gq155, .ref gq156, .int 0, .ref gq157, .ref gq158, .ref gq159, .int 0, .ref gq160]))] sz) t) (va_A [(gx, .inr (11, [.ref gq1, .ref gq4, .ref gq13, .ref gq136, .ref gq137, .ref gq138, .ref gq172, .ref gq184, .ref gq150, .ref gq161, .int (-1)])), (gq150, .inr (2, [.int 0, .ref gq151, .ref gq152, .ref gq153, .ref gq154, .ref gq155, .ref gq156, .int 0, .ref gq157, .ref gq158, .ref gq159, .int 0, .ref gq160]))] sz)) 1 6 (va_A [(gx, .inr (11, [.ref gq1, .ref gq4, .ref gq13, .ref gq136, .ref gq137, .ref gq138, .ref gq172, .ref gq184, .ref gq150, .ref gq161, .int (-1)])), (gq150, .inr (2, [.int 0, .ref gq151, .ref gq152, .ref gq153, .ref gq154, .ref gq155, .ref gq156, .int 0, .ref gq157, .ref gq158, .ref gq159, .int 0, .ref gq160]))] sz) := by
  refine va_MetW (cc := cL_depthOf) (maxL := 5) (ret := (Option.some Jvm.ClassFile.FieldType.int)) (hh := [(0, 10, 13, 24)]) (by decide) rfl ?_
  intro p e s m args below meth c s₁ B hml hv
  obtain ⟨rfl, hsz, hP, hK, hD0, hE⟩ := hv
  have hx := B.exec
  have hb := B.bytes
  have hr := B.returns
  have hts0 := atoms_spec (ws := wh yL_depthOf cL_depthOf 5 (Option.some Jvm.ClassFile.FieldType.int) [(0, 10, 13, 24)]) B.pre
  have htab := vx_table B (hts0 _ List.mem_cons_self)
  have hts : ∀ w ∈ gw, w.before _ s = true := fun w h => hts0 w (List.mem_cons_of_mem _ h)
  have hown : s.vm.findClass RL = some m.cls := findClass_of_methodNamed B.named
  have hlocks := B.notSynchronized
  subst hsz
  have hD := hD0.self (sz := s.heap.size)
  generalize hAe : va_A [(gx, .inr (11, [.ref gq1, .ref gq4, .ref gq13, .ref gq136, .ref gq137, .ref gq138, .ref gq172, .ref gq184, .ref gq150, .ref gq161, .int (-1)])), (gq150, .inr (2, [.int 0, .ref gq151, .ref gq152, .ref gq153, .ref gq154, .ref gq155, .ref gq156, .int 0, .ref gq157, .ref gq158, .ref gq159, .int 0, .ref gq160]))] s.heap.size = A at hD hE ⊢
  have hA : ∀ q : Nat, s.heap.size ≤ q → A q := fun q h => by rw [← hAe]; exact Or.inr h
  have hS : va_S A s.heap s.heap [] := va_S.rf
  have hP : va_P (dC, dI) cls [(gx, .inr (11, [.ref gq1, .ref gq4, .ref gq13, .ref gq136, .ref gq137, .ref gq138, .ref gq172, .ref gq184, .ref gq150, .ref gq161, .int (-1)])), (gq150, .inr (2, [.int 0, .ref gq151, .ref gq152, .ref gq153, .ref gq154, .ref gq155, .ref gq156, .int 0, .ref gq157, .ref gq158, .ref gq159, .int 0, .ref gq160]))] s.heap := hP
  have hl := lv_entry ([.ref gx, .int p0, .int p1, .ref go]) (n := 5) (Nat.le_of_ble_eq_true rfl)
  rw [lg_entry_eq]
  generalize (lg_sl ([.ref gx, .int p0, .int p1, .ref go]) ++ List.replicate (5 - (lg_sl ([.ref gx, .int p0, .int p1, .ref go])).length) Slot.unset).toArray = ls at hl ⊢
  have hl : lv_has ls 5 [(0, .ref gx), (1, .int p0), (2, .int p1), (3, .ref go)] := hl
  refine lv_aload_n hx hb dL_depthOf_0 rfl (lv_at hl 3 rfl) ?_
  refine lv_iconst (v := 0) hx hb dL_depthOf_1 (by decide) ?_
  refine lv_aload_n hx hb dL_depthOf_2 rfl (lv_at hl 0 rfl) ?_
  refine lv_iload_n hx hb dL_depthOf_3 rfl (lv_at hl 1 rfl) ?_
  refine lv_iload_n hx hb dL_depthOf_4 rfl (lv_at hl 2 rfl) ?_
  have hPc := hP.sub (ws' := [(gx, .inr (11, [.ref gq1, .ref gq4, .ref gq13, .ref gq136, .ref gq137, .ref gq138, .ref gq172, .ref gq184, .ref gq150, .ref gq161, .int (-1)])), (gq150, .inr (2, [.int 0, .ref gq151, .ref gq152, .ref gq153, .ref gq154, .ref gq155, .ref gq156, .int 0, .ref gq157, .ref gq158, .ref gq159, .int 0, .ref gq160]))]) [0, 1] rfl
  have hDc := hD.sub (ws' := [(gx, .inr (11, [.ref gq1, .ref gq4, .ref gq13, .ref gq136, .ref gq137, .ref gq138, .ref gq172, .ref gq184, .ref gq150, .ref gq161, .int (-1)])), (gq150, .inr (2, [.int 0, .ref gq151, .ref gq152, .ref gq153, .ref gq154, .ref gq155, .ref gq156, .int 0, .ref gq157, .ref gq158, .ref gq159, .int 0, .ref gq160]))]) [0, 1] (by decide) rfl
  have hKc := hK.sub (tys' := []) [] rfl
  have hFc := va_free (wc := [(gx, .inr (11, [.ref gq1, .ref gq4, .ref gq13, .ref gq136, .ref gq137, .ref gq138, .ref gq172, .ref gq184, .ref gq150, .ref gq161, .int (-1)])), (gq150, .inr (2, [.int 0, .ref gq151, .ref gq152, .ref gq153, .ref gq154, .ref gq155, .ref gq156, .int 0, .ref gq157, .ref gq158, .ref gq159, .int 0, .ref gq160]))]) hD hS hA [0, 1] rfl
  refine vx_calli (vx_runV (As := [.int p0, .int p1]) (rest := [.int 0, .ref go]) ⟨hx, hb, hml, hown, hts⟩ (kX11_depthOf l dC dI (gx := gx) (gq1 := gq1) (gq4 := gq4) (gq13 := gq13) (gq136 := gq136) (gq137 := gq137) (gq138 := gq138) (gq150 := gq150) (gq151 := gq151) (gq152 := gq152) (gq153 := gq153) (gq154 := gq154) (gq155 := gq155) (gq156 := gq156) (gq157 := gq157) (gq158 := gq158) (gq159 := gq159) (gq160 := gq160) (gq161 := gq161) (gq172 := gq172) (gq184 := gq184) (p0 := p0) (p1 := p1) (sz := _) (hl9 := hl9)) (cwV 2 hts (gi_V qw480 qw481 qw482 qw222 (gi_z qw479)) rfl rfl rfl (by decide +kernel) ⟨Nat.le_of_ble_eq_true rfl, Nat.le_of_ble_eq_true rfl⟩) ⟨PRE.blind, va_recv hKc hPc (ci := 11) (q0 := 0) rfl rfl, PRE.of hE hS hFc hPc hKc hDc⟩ rfl rfl hl.1 rfl (lv_room (Nat.le_of_ble_eq_true rfl)) dL_depthOf_5 ⟨Nat.le_of_ble_eq_true rfl, Nat.le_of_ble_eq_true rfl⟩) hS (fun q _ h => hFc q h) hFc (fun q _ h => hFc q h) (fun E ce q9 u t H locs ht hvm hw hB hz1 hk1 hS hce hcv hcl => ?_) (fun _ u t H locs ht hvm hw hB hz1 hk1 hS => hw.elim)
  obtain ⟨rfl, hB⟩ := hB
  obtain ⟨hP, hD, hK⟩ := JOIN (wr := []) hP hD hK [0, 1] [] [] rfl rfl (by decide) (by decide) rfl hk1 hFc ht hvm hB
  have hP : va_P (dC, dI) cls [] H := hP
  have hD : va_D A [] := hD
  have hK : va_K (dC, dI) cls [] s := hK
  refine vx_widen (k := 1) (n := 6) (Nat.le_of_ble_eq_true rfl) (Nat.le_of_ble_eq_true rfl) ?_
  refine vx_catch (own := RL) (name := "java/lang/IndexOutOfBoundsException") hown [] ⟨0, 10, 13, 24⟩ [] (htab.trans rfl) (fun z hz => by cases hz) (by decide) (by decide) (hts _ qw462) (hE.word (List.mem_append_right _ (tbl_9 (i := 38) rfl)) rfl) hce hcv hcl ?_
  refine lv_astore (lv' := [(4, .ref q9), (0, .ref gx), (1, .int p0), (2, .int p1), (3, .ref go)]) hx hb dL_depthOf_13 hl (by decide) rfl (fun ls hl => ?_)
  refine lv_iconst (v := 1) hx hb dL_depthOf_15 (by decide) ?_
  have hP9 : va_P (dC, dI) cls [] H := hP.sub [] rfl
  have hD9 : va_D A [] := hD.sub [] (by decide) rfl
  have hK9 : va_K (dC, dI) cls [] s := hK.sub [] rfl
  exact W.iret (v := 1) hx hb hr (fun t ht hW => ⟨⟨1, (), rfl, rfl, ⟨by rw [ht]; exact hP9, va_K.moved hW.alike hK9, hD9⟩⟩, hS.F ht⟩) hS.2.2 dL_depthOf_16
set_option maxHeartbeats 4000000 in
set_option maxRecDepth 100000 in
theorem kL_predecessors {zs : Nat × Nat} (l : Launch) (dC : Nat → ClassId) (dI : Nat → Nat → Nat) (gx : Nat) (gq1 : Nat) (gq4 : Nat) (gq13 : Nat) (gq136 : Nat) (gq137 : Nat) (gq138 : Nat) (gq150 : Nat) (gq151 : Nat) (gq152 : Nat) (gq153 : Nat) (gq154 : Nat) (gq155 : Nat) (gq156 : Nat) (gq157 : Nat) (gq158 : Nat) (gq159 : Nat) (gq160 : Nat) (gq161 : Nat) (gq172 : Nat) (gq184 : Nat) (go : Nat) (p0 : Int32) (p1 : Int32) (sz : Nat) (hl9 : l.stackTraces = false)  : Met l yL_predecessors (wh yL_predecessors cL_predecessors 5 (Option.some Jvm.ClassFile.FieldType.int) [(0, 10, 13, 24)]) ({ frames := 9, cells := 1, slots := 6, locals := 165 }) (va_Pc [.ref gx, .int p0, .int p1, .ref go] (PRE zs dC dI [(gx, .inr (11, [.ref gq1, .ref gq4, .ref gq13, .ref gq136, .ref gq137, .ref gq138, .ref gq172, .ref gq184, .ref gq150, .ref gq161, .int (-1)])), (gq150, .inr (2, [.int 0, .ref gq151, .ref gq152, .ref gq153, .ref gq154, .ref gq155, .ref gq156, .int 0, .ref gq157, .ref gq158, .ref gq159, .int 0, .ref gq160]))] [] sz)) (va_Qi (fun (r : Int32) (_ : Unit) => r = 1) (fun _ t => POST dC dI [] [] (va_A [(gx, .inr (11, [.ref gq1, .ref gq4, .ref gq13, .ref gq136, .ref gq137, .ref gq138, .ref gq172, .ref gq184, .ref gq150, .ref gq161, .int (-1)])), (gq150, .inr (2, [.int 0, .ref gq151, .ref gq152, .ref gq153, .ref gq154, .ref gq155, .ref gq156, .int 0, .ref gq157, .ref gq158, .ref gq159, .int 0, .ref gq160]))] sz) t) (va_A [(gx, .inr (11, [.ref gq1, .ref gq4, .ref gq13, .ref gq136, .ref gq137, .ref gq138, .ref gq172, .ref gq184, .ref gq150, .ref gq161, .int (-1)])), (gq150, .inr (2, [.int 0, .ref gq151, .ref gq152, .ref gq153, .ref gq154, .ref gq155, .ref gq156, .int 0, .ref gq157, .ref gq158, .ref gq159, .int 0, .ref gq160]))] sz)) 1 6 (va_A [(gx, .inr (11, [.ref gq1, .ref gq4, .ref gq13, .ref gq136, .ref gq137, .ref gq138, .ref gq172, .ref gq184, .ref gq150, .ref gq161, .int (-1)])), (gq150, .inr (2, [.int 0, .ref gq151, .ref gq152, .ref gq153, .ref gq154, .ref gq155, .ref gq156, .int 0, .ref gq157, .ref gq158, .ref gq159, .int 0, .ref gq160]))] sz) := by
  refine va_MetW (cc := cL_predecessors) (maxL := 5) (ret := (Option.some Jvm.ClassFile.FieldType.int)) (hh := [(0, 10, 13, 24)]) (by decide) rfl ?_
  intro p e s m args below meth c s₁ B hml hv
  obtain ⟨rfl, hsz, hP, hK, hD0, hE⟩ := hv
  have hx := B.exec
  have hb := B.bytes
  have hr := B.returns
  have hts0 := atoms_spec (ws := wh yL_predecessors cL_predecessors 5 (Option.some Jvm.ClassFile.FieldType.int) [(0, 10, 13, 24)]) B.pre
  have htab := vx_table B (hts0 _ List.mem_cons_self)
  have hts : ∀ w ∈ gw, w.before _ s = true := fun w h => hts0 w (List.mem_cons_of_mem _ h)
  have hown : s.vm.findClass RL = some m.cls := findClass_of_methodNamed B.named
  have hlocks := B.notSynchronized
  subst hsz
  have hD := hD0.self (sz := s.heap.size)
  generalize hAe : va_A [(gx, .inr (11, [.ref gq1, .ref gq4, .ref gq13, .ref gq136, .ref gq137, .ref gq138, .ref gq172, .ref gq184, .ref gq150, .ref gq161, .int (-1)])), (gq150, .inr (2, [.int 0, .ref gq151, .ref gq152, .ref gq153, .ref gq154, .ref gq155, .ref gq156, .int 0, .ref gq157, .ref gq158, .ref gq159, .int 0, .ref gq160]))] s.heap.size = A at hD hE ⊢
  have hA : ∀ q : Nat, s.heap.size ≤ q → A q := fun q h => by rw [← hAe]; exact Or.inr h
  have hS : va_S A s.heap s.heap [] := va_S.rf
  have hP : va_P (dC, dI) cls [(gx, .inr (11, [.ref gq1, .ref gq4, .ref gq13, .ref gq136, .ref gq137, .ref gq138, .ref gq172, .ref gq184, .ref gq150, .ref gq161, .int (-1)])), (gq150, .inr (2, [.int 0, .ref gq151, .ref gq152, .ref gq153, .ref gq154, .ref gq155, .ref gq156, .int 0, .ref gq157, .ref gq158, .ref gq159, .int 0, .ref gq160]))] s.heap := hP
  have hl := lv_entry ([.ref gx, .int p0, .int p1, .ref go]) (n := 5) (Nat.le_of_ble_eq_true rfl)
  rw [lg_entry_eq]
  generalize (lg_sl ([.ref gx, .int p0, .int p1, .ref go]) ++ List.replicate (5 - (lg_sl ([.ref gx, .int p0, .int p1, .ref go])).length) Slot.unset).toArray = ls at hl ⊢
  have hl : lv_has ls 5 [(0, .ref gx), (1, .int p0), (2, .int p1), (3, .ref go)] := hl
  refine lv_aload_n hx hb dL_predecessors_0 rfl (lv_at hl 3 rfl) ?_
  refine lv_iconst (v := 0) hx hb dL_predecessors_1 (by decide) ?_
  refine lv_aload_n hx hb dL_predecessors_2 rfl (lv_at hl 0 rfl) ?_
  refine lv_iload_n hx hb dL_predecessors_3 rfl (lv_at hl 1 rfl) ?_
  refine lv_iload_n hx hb dL_predecessors_4 rfl (lv_at hl 2 rfl) ?_
  have hPc := hP.sub (ws' := [(gx, .inr (11, [.ref gq1, .ref gq4, .ref gq13, .ref gq136, .ref gq137, .ref gq138, .ref gq172, .ref gq184, .ref gq150, .ref gq161, .int (-1)])), (gq150, .inr (2, [.int 0, .ref gq151, .ref gq152, .ref gq153, .ref gq154, .ref gq155, .ref gq156, .int 0, .ref gq157, .ref gq158, .ref gq159, .int 0, .ref gq160]))]) [0, 1] rfl
  have hDc := hD.sub (ws' := [(gx, .inr (11, [.ref gq1, .ref gq4, .ref gq13, .ref gq136, .ref gq137, .ref gq138, .ref gq172, .ref gq184, .ref gq150, .ref gq161, .int (-1)])), (gq150, .inr (2, [.int 0, .ref gq151, .ref gq152, .ref gq153, .ref gq154, .ref gq155, .ref gq156, .int 0, .ref gq157, .ref gq158, .ref gq159, .int 0, .ref gq160]))]) [0, 1] (by decide) rfl
  have hKc := hK.sub (tys' := []) [] rfl
  have hFc := va_free (wc := [(gx, .inr (11, [.ref gq1, .ref gq4, .ref gq13, .ref gq136, .ref gq137, .ref gq138, .ref gq172, .ref gq184, .ref gq150, .ref gq161, .int (-1)])), (gq150, .inr (2, [.int 0, .ref gq151, .ref gq152, .ref gq153, .ref gq154, .ref gq155, .ref gq156, .int 0, .ref gq157, .ref gq158, .ref gq159, .int 0, .ref gq160]))]) hD hS hA [0, 1] rfl
  refine vx_calli (vx_runV (As := [.int p0, .int p1]) (rest := [.int 0, .ref go]) ⟨hx, hb, hml, hown, hts⟩ (kX11_predecessors l dC dI (gx := gx) (gq1 := gq1) (gq4 := gq4) (gq13 := gq13) (gq136 := gq136) (gq137 := gq137) (gq138 := gq138) (gq150 := gq150) (gq151 := gq151) (gq152 := gq152) (gq153 := gq153) (gq154 := gq154) (gq155 := gq155) (gq156 := gq156) (gq157 := gq157) (gq158 := gq158) (gq159 := gq159) (gq160 := gq160) (gq161 := gq161) (gq172 := gq172) (gq184 := gq184) (p0 := p0) (p1 := p1) (sz := _) (hl9 := hl9)) (cwV 2 hts (gi_V qw484 qw485 qw486 qw222 (gi_z qw483)) rfl rfl rfl (by decide +kernel) ⟨Nat.le_of_ble_eq_true rfl, Nat.le_of_ble_eq_true rfl⟩) ⟨PRE.blind, va_recv hKc hPc (ci := 11) (q0 := 0) rfl rfl, PRE.of hE hS hFc hPc hKc hDc⟩ rfl rfl hl.1 rfl (lv_room (Nat.le_of_ble_eq_true rfl)) dL_predecessors_5 ⟨Nat.le_of_ble_eq_true rfl, Nat.le_of_ble_eq_true rfl⟩) hS (fun q _ h => hFc q h) hFc (fun q _ h => hFc q h) (fun E ce q9 u t H locs ht hvm hw hB hz1 hk1 hS hce hcv hcl => ?_) (fun _ u t H locs ht hvm hw hB hz1 hk1 hS => hw.elim)
  obtain ⟨rfl, hB⟩ := hB
  obtain ⟨hP, hD, hK⟩ := JOIN (wr := []) hP hD hK [0, 1] [] [] rfl rfl (by decide) (by decide) rfl hk1 hFc ht hvm hB
  have hP : va_P (dC, dI) cls [] H := hP
  have hD : va_D A [] := hD
  have hK : va_K (dC, dI) cls [] s := hK
  refine vx_widen (k := 1) (n := 6) (Nat.le_of_ble_eq_true rfl) (Nat.le_of_ble_eq_true rfl) ?_
  refine vx_catch (own := RL) (name := "java/lang/IndexOutOfBoundsException") hown [] ⟨0, 10, 13, 24⟩ [] (htab.trans rfl) (fun z hz => by cases hz) (by decide) (by decide) (hts _ qw462) (hE.word (List.mem_append_right _ (tbl_9 (i := 38) rfl)) rfl) hce hcv hcl ?_
  refine lv_astore (lv' := [(4, .ref q9), (0, .ref gx), (1, .int p0), (2, .int p1), (3, .ref go)]) hx hb dL_predecessors_13 hl (by decide) rfl (fun ls hl => ?_)
  refine lv_iconst (v := 1) hx hb dL_predecessors_15 (by decide) ?_
  have hP9 : va_P (dC, dI) cls [] H := hP.sub [] rfl
  have hD9 : va_D A [] := hD.sub [] (by decide) rfl
  have hK9 : va_K (dC, dI) cls [] s := hK.sub [] rfl
  exact W.iret (v := 1) hx hb hr (fun t ht hW => ⟨⟨1, (), rfl, rfl, ⟨by rw [ht]; exact hP9, va_K.moved hW.alike hK9, hD9⟩⟩, hS.F ht⟩) hS.2.2 dL_predecessors_16
set_option maxHeartbeats 4000000 in
set_option maxRecDepth 100000 in
theorem kL_predecessor {zs : Nat × Nat} (l : Launch) (dC : Nat → ClassId) (dI : Nat → Nat → Nat) (gx : Nat) (gq1 : Nat) (gq4 : Nat) (gq13 : Nat) (gq136 : Nat) (gq137 : Nat) (gq138 : Nat) (gq150 : Nat) (gq151 : Nat) (gq152 : Nat) (gq153 : Nat) (gq154 : Nat) (gq155 : Nat) (gq156 : Nat) (gq157 : Nat) (gq158 : Nat) (gq159 : Nat) (gq160 : Nat) (gq161 : Nat) (gq172 : Nat) (gq184 : Nat) (go : Nat) (p0 : Int32) (p1 : Int32) (p2 : Int32) (sz : Nat) (hl9 : l.stackTraces = false)  : Met l yL_predecessor (wh yL_predecessor cL_predecessor 6 (Option.some Jvm.ClassFile.FieldType.int) [(0, 12, 15, 24)]) ({ frames := 9, cells := 1, slots := 6, locals := 167 }) (va_Pc [.ref gx, .int p0, .int p1, .int p2, .ref go] (PRE zs dC dI [(gx, .inr (11, [.ref gq1, .ref gq4, .ref gq13, .ref gq136, .ref gq137, .ref gq138, .ref gq172, .ref gq184, .ref gq150, .ref gq161, .int (-1)])), (gq150, .inr (2, [.int 0, .ref gq151, .ref gq152, .ref gq153, .ref gq154, .ref gq155, .ref gq156, .int 0, .ref gq157, .ref gq158, .ref gq159, .int 0, .ref gq160]))] [] sz)) (va_Qi (fun (r : Int32) (_ : Unit) => r = 1) (fun _ t => POST dC dI [] [] (va_A [(gx, .inr (11, [.ref gq1, .ref gq4, .ref gq13, .ref gq136, .ref gq137, .ref gq138, .ref gq172, .ref gq184, .ref gq150, .ref gq161, .int (-1)])), (gq150, .inr (2, [.int 0, .ref gq151, .ref gq152, .ref gq153, .ref gq154, .ref gq155, .ref gq156, .int 0, .ref gq157, .ref gq158, .ref gq159, .int 0, .ref gq160]))] sz) t) (va_A [(gx, .inr (11, [.ref gq1, .ref gq4, .ref gq13, .ref gq136, .ref gq137, .ref gq138, .ref gq172, .ref gq184, .ref gq150, .ref gq161, .int (-1)])), (gq150, .inr (2, [.int 0, .ref gq151, .ref gq152, .ref gq153, .ref gq154, .ref gq155, .ref gq156, .int 0, .ref gq157, .ref gq158, .ref gq159, .int 0, .ref gq160]))] sz)) 1 6 (va_A [(gx, .inr (11, [.ref gq1, .ref gq4, .ref gq13, .ref gq136, .ref gq137, .ref gq138, .ref gq172, .ref gq184, .ref gq150, .ref gq161, .int (-1)])), (gq150, .inr (2, [.int 0, .ref gq151, .ref gq152, .ref gq153, .ref gq154, .ref gq155, .ref gq156, .int 0, .ref gq157, .ref gq158, .ref gq159, .int 0, .ref gq160]))] sz) := by
  refine va_MetW (cc := cL_predecessor) (maxL := 6) (ret := (Option.some Jvm.ClassFile.FieldType.int)) (hh := [(0, 12, 15, 24)]) (by decide) rfl ?_
  intro p e s m args below meth c s₁ B hml hv
  obtain ⟨rfl, hsz, hP, hK, hD0, hE⟩ := hv
  have hx := B.exec
  have hb := B.bytes
  have hr := B.returns
  have hts0 := atoms_spec (ws := wh yL_predecessor cL_predecessor 6 (Option.some Jvm.ClassFile.FieldType.int) [(0, 12, 15, 24)]) B.pre
  have htab := vx_table B (hts0 _ List.mem_cons_self)
  have hts : ∀ w ∈ gw, w.before _ s = true := fun w h => hts0 w (List.mem_cons_of_mem _ h)
  have hown : s.vm.findClass RL = some m.cls := findClass_of_methodNamed B.named
  have hlocks := B.notSynchronized
  subst hsz
  have hD := hD0.self (sz := s.heap.size)
  generalize hAe : va_A [(gx, .inr (11, [.ref gq1, .ref gq4, .ref gq13, .ref gq136, .ref gq137, .ref gq138, .ref gq172, .ref gq184, .ref gq150, .ref gq161, .int (-1)])), (gq150, .inr (2, [.int 0, .ref gq151, .ref gq152, .ref gq153, .ref gq154, .ref gq155, .ref gq156, .int 0, .ref gq157, .ref gq158, .ref gq159, .int 0, .ref gq160]))] s.heap.size = A at hD hE ⊢
  have hA : ∀ q : Nat, s.heap.size ≤ q → A q := fun q h => by rw [← hAe]; exact Or.inr h
  have hS : va_S A s.heap s.heap [] := va_S.rf
  have hP : va_P (dC, dI) cls [(gx, .inr (11, [.ref gq1, .ref gq4, .ref gq13, .ref gq136, .ref gq137, .ref gq138, .ref gq172, .ref gq184, .ref gq150, .ref gq161, .int (-1)])), (gq150, .inr (2, [.int 0, .ref gq151, .ref gq152, .ref gq153, .ref gq154, .ref gq155, .ref gq156, .int 0, .ref gq157, .ref gq158, .ref gq159, .int 0, .ref gq160]))] s.heap := hP
  have hl := lv_entry ([.ref gx, .int p0, .int p1, .int p2, .ref go]) (n := 6) (Nat.le_of_ble_eq_true rfl)
  rw [lg_entry_eq]
  generalize (lg_sl ([.ref gx, .int p0, .int p1, .int p2, .ref go]) ++ List.replicate (6 - (lg_sl ([.ref gx, .int p0, .int p1, .int p2, .ref go])).length) Slot.unset).toArray = ls at hl ⊢
  have hl : lv_has ls 6 [(0, .ref gx), (1, .int p0), (2, .int p1), (3, .int p2), (4, .ref go)] := hl
  refine lv_aload hx hb dL_predecessor_0 (lv_at hl 4 rfl) ?_
  refine lv_iconst (v := 0) hx hb dL_predecessor_2 (by decide) ?_
  refine lv_aload_n hx hb dL_predecessor_3 rfl (lv_at hl 0 rfl) ?_
  refine lv_iload_n hx hb dL_predecessor_4 rfl (lv_at hl 1 rfl) ?_
  refine lv_iload_n hx hb dL_predecessor_5 rfl (lv_at hl 2 rfl) ?_
  refine lv_iload_n hx hb dL_predecessor_6 rfl (lv_at hl 3 rfl) ?_
  have hPc := hP.sub (ws' := [(gx, .inr (11, [.ref gq1, .ref gq4, .ref gq13, .ref gq136, .ref gq137, .ref gq138, .ref gq172, .ref gq184, .ref gq150, .ref gq161, .int (-1)])), (gq150, .inr (2, [.int 0, .ref gq151, .ref gq152, .ref gq153, .ref gq154, .ref gq155, .ref gq156, .int 0, .ref gq157, .ref gq158, .ref gq159, .int 0, .ref gq160]))]) [0, 1] rfl
  have hDc := hD.sub (ws' := [(gx, .inr (11, [.ref gq1, .ref gq4, .ref gq13, .ref gq136, .ref gq137, .ref gq138, .ref gq172, .ref gq184, .ref gq150, .ref gq161, .int (-1)])), (gq150, .inr (2, [.int 0, .ref gq151, .ref gq152, .ref gq153, .ref gq154, .ref gq155, .ref gq156, .int 0, .ref gq157, .ref gq158, .ref gq159, .int 0, .ref gq160]))]) [0, 1] (by decide) rfl
  have hKc := hK.sub (tys' := []) [] rfl
  have hFc := va_free (wc := [(gx, .inr (11, [.ref gq1, .ref gq4, .ref gq13, .ref gq136, .ref gq137, .ref gq138, .ref gq172, .ref gq184, .ref gq150, .ref gq161, .int (-1)])), (gq150, .inr (2, [.int 0, .ref gq151, .ref gq152, .ref gq153, .ref gq154, .ref gq155, .ref gq156, .int 0, .ref gq157, .ref gq158, .ref gq159, .int 0, .ref gq160]))]) hD hS hA [0, 1] rfl
  refine vx_calli (vx_runV (As := [.int p0, .int p1, .int p2]) (rest := [.int 0, .ref go]) ⟨hx, hb, hml, hown, hts⟩ (kX11_predecessor l dC dI (gx := gx) (gq1 := gq1) (gq4 := gq4) (gq13 := gq13) (gq136 := gq136) (gq137 := gq137) (gq138 := gq138) (gq150 := gq150) (gq151 := gq151) (gq152 := gq152) (gq153 := gq153) (gq154 := gq154) (gq155 := gq155) (gq156 := gq156) (gq157 := gq157) (gq158 := gq158) (gq159 := gq159) (gq160 := gq160) (gq161 := gq161) (gq172 := gq172) (gq184 := gq184) (p0 := p0) (p1 := p1) (p2 := p2) (sz := _) (hl9 := hl9)) (cwV 3 hts (gi_V qw488 qw489 qw490 qw222 (gi_z qw487)) rfl rfl rfl (by decide +kernel) ⟨Nat.le_of_ble_eq_true rfl, Nat.le_of_ble_eq_true rfl⟩) ⟨PRE.blind, va_recv hKc hPc (ci := 11) (q0 := 0) rfl rfl, PRE.of hE hS hFc hPc hKc hDc⟩ rfl rfl hl.1 rfl (lv_room (Nat.le_of_ble_eq_true rfl)) dL_predecessor_7 ⟨Nat.le_of_ble_eq_true rfl, Nat.le_of_ble_eq_true rfl⟩) hS (fun q _ h => hFc q h) hFc (fun q _ h => hFc q h) (fun E ce q9 u t H locs ht hvm hw hB hz1 hk1 hS hce hcv hcl => ?_) (fun _ u t H locs ht hvm hw hB hz1 hk1 hS => hw.elim)
  obtain ⟨rfl, hB⟩ := hB
  obtain ⟨hP, hD, hK⟩ := JOIN (wr := []) hP hD hK [0, 1] [] [] rfl rfl (by decide) (by decide) rfl hk1 hFc ht hvm hB
  have hP : va_P (dC, dI) cls [] H := hP
  have hD : va_D A [] := hD
  have hK : va_K (dC, dI) cls [] s := hK
  refine vx_widen (k := 1) (n := 6) (Nat.le_of_ble_eq_true rfl) (Nat.le_of_ble_eq_true rfl) ?_
  refine vx_catch (own := RL) (name := "java/lang/IndexOutOfBoundsException") hown [] ⟨0, 12, 15, 24⟩ [] (htab.trans rfl) (fun z hz => by cases hz) (by decide) (by decide) (hts _ qw462) (hE.word (List.mem_append_right _ (tbl_9 (i := 38) rfl)) rfl) hce hcv hcl ?_
  refine lv_astore (lv' := [(5, .ref q9), (0, .ref gx), (1, .int p0), (2, .int p1), (3, .int p2), (4, .ref go)]) hx hb dL_predecessor_15 hl (by decide) rfl (fun ls hl => ?_)
  refine lv_iconst (v := 1) hx hb dL_predecessor_17 (by decide) ?_
  have hP9 : va_P (dC, dI) cls [] H := hP.sub [] rfl
  have hD9 : va_D A [] := hD.sub [] (by decide) rfl
  have hK9 : va_K (dC, dI) cls [] s := hK.sub [] rfl
  exact W.iret (v := 1) hx hb hr (fun t ht hW => ⟨⟨1, (), rfl, rfl, ⟨by rw [ht]; exact hP9, va_K.moved hW.alike hK9, hD9⟩⟩, hS.F ht⟩) hS.2.2 dL_predecessor_18
set_option maxHeartbeats 4000000 in
set_option maxRecDepth 100000 in
theorem kL_endOf {zs : Nat × Nat} (l : Launch) (dC : Nat → ClassId) (dI : Nat → Nat → Nat) (gx : Nat) (gq1 : Nat) (gq4 : Nat) (gq13 : Nat) (gq136 : Nat) (gq137 : Nat) (gq138 : Nat) (gq150 : Nat) (gq151 : Nat) (gq152 : Nat) (gq153 : Nat) (gq154 : Nat) (gq155 : Nat) (gq156 : Nat) (gq157 : Nat) (gq158 : Nat) (gq159 : Nat) (gq160 : Nat) (gq161 : Nat) (gq172 : Nat) (gq184 : Nat) (go : Nat) (p0 : Int32) (p1 : Int32) (sz : Nat) (hl9 : l.stackTraces = false)  : Met l yL_endOf (wh yL_endOf cL_endOf 5 (Option.some Jvm.ClassFile.FieldType.int) [(0, 10, 13, 24)]) ({ frames := 9, cells := 1, slots := 6, locals := 165 }) (va_Pc [.ref gx, .int p0, .int p1, .ref go] (PRE zs dC dI [(gx, .inr (11, [.ref gq1, .ref gq4, .ref gq13, .ref gq136, .ref gq137, .ref gq138, .ref gq172, .ref gq184, .ref gq150, .ref gq161, .int (-1)])), (gq150, .inr (2, [.int 0, .ref gq151, .ref gq152, .ref gq153, .ref gq154, .ref gq155, .ref gq156, .int 0, .ref gq157, .ref gq158, .ref gq159, .int 0, .ref gq160]))] [] sz)) (va_Qi (fun (r : Int32) (_ : Unit) => r = 1) (fun _ t => POST dC dI [] [] (va_A [(gx, .inr (11, [.ref gq1, .ref gq4, .ref gq13, .ref gq136, .ref gq137, .ref gq138, .ref gq172, .ref gq184, .ref gq150, .ref gq161, .int (-1)])), (gq150, .inr (2, [.int 0, .ref gq151, .ref gq152, .ref gq153, .ref gq154, .ref gq155, .ref gq156, .int 0, .ref gq157, .ref gq158, .ref gq159, .int 0, .ref gq160]))] sz) t) (va_A [(gx, .inr (11, [.ref gq1, .ref gq4, .ref gq13, .ref gq136, .ref gq137, .ref gq138, .ref gq172, .ref gq184, .ref gq150, .ref gq161, .int (-1)])), (gq150, .inr (2, [.int 0, .ref gq151, .ref gq152, .ref gq153, .ref gq154, .ref gq155, .ref gq156, .int 0, .ref gq157, .ref gq158, .ref gq159, .int 0, .ref gq160]))] sz)) 1 6 (va_A [(gx, .inr (11, [.ref gq1, .ref gq4, .ref gq13, .ref gq136, .ref gq137, .ref gq138, .ref gq172, .ref gq184, .ref gq150, .ref gq161, .int (-1)])), (gq150, .inr (2, [.int 0, .ref gq151, .ref gq152, .ref gq153, .ref gq154, .ref gq155, .ref gq156, .int 0, .ref gq157, .ref gq158, .ref gq159, .int 0, .ref gq160]))] sz) := by
  refine va_MetW (cc := cL_endOf) (maxL := 5) (ret := (Option.some Jvm.ClassFile.FieldType.int)) (hh := [(0, 10, 13, 24)]) (by decide) rfl ?_
  intro p e s m args below meth c s₁ B hml hv
  obtain ⟨rfl, hsz, hP, hK, hD0, hE⟩ := hv
  have hx := B.exec
  have hb := B.bytes
  have hr := B.returns
  have hts0 := atoms_spec (ws := wh yL_endOf cL_endOf 5 (Option.some Jvm.ClassFile.FieldType.int) [(0, 10, 13, 24)]) B.pre
  have htab := vx_table B (hts0 _ List.mem_cons_self)
  have hts : ∀ w ∈ gw, w.before _ s = true := fun w h => hts0 w (List.mem_cons_of_mem _ h)
  have hown : s.vm.findClass RL = some m.cls := findClass_of_methodNamed B.named
  have hlocks := B.notSynchronized
  subst hsz
  have hD := hD0.self (sz := s.heap.size)
  generalize hAe : va_A [(gx, .inr (11, [.ref gq1, .ref gq4, .ref gq13, .ref gq136, .ref gq137, .ref gq138, .ref gq172, .ref gq184, .ref gq150, .ref gq161, .int (-1)])), (gq150, .inr (2, [.int 0, .ref gq151, .ref gq152, .ref gq153, .ref gq154, .ref gq155, .ref gq156, .int 0, .ref gq157, .ref gq158, .ref gq159, .int 0, .ref gq160]))] s.heap.size = A at hD hE ⊢
  have hA : ∀ q : Nat, s.heap.size ≤ q → A q := fun q h => by rw [← hAe]; exact Or.inr h
  have hS : va_S A s.heap s.heap [] := va_S.rf
  have hP : va_P (dC, dI) cls [(gx, .inr (11, [.ref gq1, .ref gq4, .ref gq13, .ref gq136, .ref gq137, .ref gq138, .ref gq172, .ref gq184, .ref gq150, .ref gq161, .int (-1)])), (gq150, .inr (2, [.int 0, .ref gq151, .ref gq152, .ref gq153, .ref gq154, .ref gq155, .ref gq156, .int 0, .ref gq157, .ref gq158, .ref gq159, .int 0, .ref gq160]))] s.heap := hP
  have hl := lv_entry ([.ref gx, .int p0, .int p1, .ref go]) (n := 5) (Nat.le_of_ble_eq_true rfl)
  rw [lg_entry_eq]
  generalize (lg_sl ([.ref gx, .int p0, .int p1, .ref go]) ++ List.replicate (5 - (lg_sl ([.ref gx, .int p0, .int p1, .ref go])).length) Slot.unset).toArray = ls at hl ⊢
  have hl : lv_has ls 5 [(0, .ref gx), (1, .int p0), (2, .int p1), (3, .ref go)] := hl
  refine lv_aload_n hx hb dL_endOf_0 rfl (lv_at hl 3 rfl) ?_
  refine lv_iconst (v := 0) hx hb dL_endOf_1 (by decide) ?_
  refine lv_aload_n hx hb dL_endOf_2 rfl (lv_at hl 0 rfl) ?_
  refine lv_iload_n hx hb dL_endOf_3 rfl (lv_at hl 1 rfl) ?_
  refine lv_iload_n hx hb dL_endOf_4 rfl (lv_at hl 2 rfl) ?_
  have hPc := hP.sub (ws' := [(gx, .inr (11, [.ref gq1, .ref gq4, .ref gq13, .ref gq136, .ref gq137, .ref gq138, .ref gq172, .ref gq184, .ref gq150, .ref gq161, .int (-1)])), (gq150, .inr (2, [.int 0, .ref gq151, .ref gq152, .ref gq153, .ref gq154, .ref gq155, .ref gq156, .int 0, .ref gq157, .ref gq158, .ref gq159, .int 0, .ref gq160]))]) [0, 1] rfl
  have hDc := hD.sub (ws' := [(gx, .inr (11, [.ref gq1, .ref gq4, .ref gq13, .ref gq136, .ref gq137, .ref gq138, .ref gq172, .ref gq184, .ref gq150, .ref gq161, .int (-1)])), (gq150, .inr (2, [.int 0, .ref gq151, .ref gq152, .ref gq153, .ref gq154, .ref gq155, .ref gq156, .int 0, .ref gq157, .ref gq158, .ref gq159, .int 0, .ref gq160]))]) [0, 1] (by decide) rfl
  have hKc := hK.sub (tys' := []) [] rfl
  have hFc := va_free (wc := [(gx, .inr (11, [.ref gq1, .ref gq4, .ref gq13, .ref gq136, .ref gq137, .ref gq138, .ref gq172, .ref gq184, .ref gq150, .ref gq161, .int (-1)])), (gq150, .inr (2, [.int 0, .ref gq151, .ref gq152, .ref gq153, .ref gq154, .ref gq155, .ref gq156, .int 0, .ref gq157, .ref gq158, .ref gq159, .int 0, .ref gq160]))]) hD hS hA [0, 1] rfl
  refine vx_calli (vx_runV (As := [.int p0, .int p1]) (rest := [.int 0, .ref go]) ⟨hx, hb, hml, hown, hts⟩ (kX11_endOf l dC dI (gx := gx) (gq1 := gq1) (gq4 := gq4) (gq13 := gq13) (gq136 := gq136) (gq137 := gq137) (gq138 := gq138) (gq150 := gq150) (gq151 := gq151) (gq152 := gq152) (gq153 := gq153) (gq154 := gq154) (gq155 := gq155) (gq156 := gq156) (gq157 := gq157) (gq158 := gq158) (gq159 := gq159) (gq160 := gq160) (gq161 := gq161) (gq172 := gq172) (gq184 := gq184) (p0 := p0) (p1 := p1) (sz := _) (hl9 := hl9)) (cwV 2 hts (gi_V qw492 qw493 qw494 qw222 (gi_z qw491)) rfl rfl rfl (by decide +kernel) ⟨Nat.le_of_ble_eq_true rfl, Nat.le_of_ble_eq_true rfl⟩) ⟨PRE.blind, va_recv hKc hPc (ci := 11) (q0 := 0) rfl rfl, PRE.of hE hS hFc hPc hKc hDc⟩ rfl rfl hl.1 rfl (lv_room (Nat.le_of_ble_eq_true rfl)) dL_endOf_5 ⟨Nat.le_of_ble_eq_true rfl, Nat.le_of_ble_eq_true rfl⟩) hS (fun q _ h => hFc q h) hFc (fun q _ h => hFc q h) (fun E ce q9 u t H locs ht hvm hw hB hz1 hk1 hS hce hcv hcl => ?_) (fun _ u t H locs ht hvm hw hB hz1 hk1 hS => hw.elim)
  obtain ⟨rfl, hB⟩ := hB
  obtain ⟨hP, hD, hK⟩ := JOIN (wr := []) hP hD hK [0, 1] [] [] rfl rfl (by decide) (by decide) rfl hk1 hFc ht hvm hB
  have hP : va_P (dC, dI) cls [] H := hP
  have hD : va_D A [] := hD
  have hK : va_K (dC, dI) cls [] s := hK
  refine vx_widen (k := 1) (n := 6) (Nat.le_of_ble_eq_true rfl) (Nat.le_of_ble_eq_true rfl) ?_
  refine vx_catch (own := RL) (name := "java/lang/IndexOutOfBoundsException") hown [] ⟨0, 10, 13, 24⟩ [] (htab.trans rfl) (fun z hz => by cases hz) (by decide) (by decide) (hts _ qw462) (hE.word (List.mem_append_right _ (tbl_9 (i := 38) rfl)) rfl) hce hcv hcl ?_
  refine lv_astore (lv' := [(4, .ref q9), (0, .ref gx), (1, .int p0), (2, .int p1), (3, .ref go)]) hx hb dL_endOf_13 hl (by decide) rfl (fun ls hl => ?_)
  refine lv_iconst (v := 1) hx hb dL_endOf_15 (by decide) ?_
  have hP9 : va_P (dC, dI) cls [] H := hP.sub [] rfl
  have hD9 : va_D A [] := hD.sub [] (by decide) rfl
  have hK9 : va_K (dC, dI) cls [] s := hK.sub [] rfl
  exact W.iret (v := 1) hx hb hr (fun t ht hW => ⟨⟨1, (), rfl, rfl, ⟨by rw [ht]; exact hP9, va_K.moved hW.alike hK9, hD9⟩⟩, hS.F ht⟩) hS.2.2 dL_endOf_16
set_option maxHeartbeats 4000000 in
set_option maxRecDepth 100000 in
theorem kL_successor {zs : Nat × Nat} (l : Launch) (dC : Nat → ClassId) (dI : Nat → Nat → Nat) (gx : Nat) (gq1 : Nat) (gq4 : Nat) (gq13 : Nat) (gq136 : Nat) (gq137 : Nat) (gq138 : Nat) (gq150 : Nat) (gq151 : Nat) (gq152 : Nat) (gq153 : Nat) (gq154 : Nat) (gq155 : Nat) (gq156 : Nat) (gq157 : Nat) (gq158 : Nat) (gq159 : Nat) (gq160 : Nat) (gq161 : Nat) (gq172 : Nat) (gq184 : Nat) (go : Nat) (p0 : Int32) (p1 : Int32) (p2 : Int32) (sz : Nat) (hl9 : l.stackTraces = false)  : Met l yL_successor (wh yL_successor cL_successor 6 (Option.some Jvm.ClassFile.FieldType.int) [(0, 12, 15, 24)]) ({ frames := 9, cells := 1, slots := 6, locals := 167 }) (va_Pc [.ref gx, .int p0, .int p1, .int p2, .ref go] (PRE zs dC dI [(gx, .inr (11, [.ref gq1, .ref gq4, .ref gq13, .ref gq136, .ref gq137, .ref gq138, .ref gq172, .ref gq184, .ref gq150, .ref gq161, .int (-1)])), (gq150, .inr (2, [.int 0, .ref gq151, .ref gq152, .ref gq153, .ref gq154, .ref gq155, .ref gq156, .int 0, .ref gq157, .ref gq158, .ref gq159, .int 0, .ref gq160]))] [] sz)) (va_Qi (fun (r : Int32) (_ : Unit) => r = 1) (fun _ t => POST dC dI [] [] (va_A [(gx, .inr (11, [.ref gq1, .ref gq4, .ref gq13, .ref gq136, .ref gq137, .ref gq138, .ref gq172, .ref gq184, .ref gq150, .ref gq161, .int (-1)])), (gq150, .inr (2, [.int 0, .ref gq151, .ref gq152, .ref gq153, .ref gq154, .ref gq155, .ref gq156, .int 0, .ref gq157, .ref gq158, .ref gq159, .int 0, .ref gq160]))] sz) t) (va_A [(gx, .inr (11, [.ref gq1, .ref gq4, .ref gq13, .ref gq136, .ref gq137, .ref gq138, .ref gq172, .ref gq184, .ref gq150, .ref gq161, .int (-1)])), (gq150, .inr (2, [.int 0, .ref gq151, .ref gq152, .ref gq153, .ref gq154, .ref gq155, .ref gq156, .int 0, .ref gq157, .ref gq158, .ref gq159, .int 0, .ref gq160]))] sz)) 1 6 (va_A [(gx, .inr (11, [.ref gq1, .ref gq4, .ref gq13, .ref gq136, .ref gq137, .ref gq138, .ref gq172, .ref gq184, .ref gq150, .ref gq161, .int (-1)])), (gq150, .inr (2, [.int 0, .ref gq151, .ref gq152, .ref gq153, .ref gq154, .ref gq155, .ref gq156, .int 0, .ref gq157, .ref gq158, .ref gq159, .int 0, .ref gq160]))] sz) := by
  refine va_MetW (cc := cL_successor) (maxL := 6) (ret := (Option.some Jvm.ClassFile.FieldType.int)) (hh := [(0, 12, 15, 24)]) (by decide) rfl ?_
  intro p e s m args below meth c s₁ B hml hv
  obtain ⟨rfl, hsz, hP, hK, hD0, hE⟩ := hv
  have hx := B.exec
  have hb := B.bytes
  have hr := B.returns
  have hts0 := atoms_spec (ws := wh yL_successor cL_successor 6 (Option.some Jvm.ClassFile.FieldType.int) [(0, 12, 15, 24)]) B.pre
  have htab := vx_table B (hts0 _ List.mem_cons_self)
  have hts : ∀ w ∈ gw, w.before _ s = true := fun w h => hts0 w (List.mem_cons_of_mem _ h)
  have hown : s.vm.findClass RL = some m.cls := findClass_of_methodNamed B.named
  have hlocks := B.notSynchronized
  subst hsz
  have hD := hD0.self (sz := s.heap.size)
  generalize hAe : va_A [(gx, .inr (11, [.ref gq1, .ref gq4, .ref gq13, .ref gq136, .ref gq137, .ref gq138, .ref gq172, .ref gq184, .ref gq150, .ref gq161, .int (-1)])), (gq150, .inr (2, [.int 0, .ref gq151, .ref gq152, .ref gq153, .ref gq154, .ref gq155, .ref gq156, .int 0, .ref gq157, .ref gq158, .ref gq159, .int 0, .ref gq160]))] s.heap.size = A at hD hE ⊢
  have hA : ∀ q : Nat, s.heap.size ≤ q → A q := fun q h => by rw [← hAe]; exact Or.inr h
  have hS : va_S A s.heap s.heap [] := va_S.rf
  have hP : va_P (dC, dI) cls [(gx, .inr (11, [.ref gq1, .ref gq4, .ref gq13, .ref gq136, .ref gq137, .ref gq138, .ref gq172, .ref gq184, .ref gq150, .ref gq161, .int (-1)])), (gq150, .inr (2, [.int 0, .ref gq151, .ref gq152, .ref gq153, .ref gq154, .ref gq155, .ref gq156, .int 0, .ref gq157, .ref gq158, .ref gq159, .int 0, .ref gq160]))] s.heap := hP
  have hl := lv_entry ([.ref gx, .int p0, .int p1, .int p2, .ref go]) (n := 6) (Nat.le_of_ble_eq_true rfl)
  rw [lg_entry_eq]
  generalize (lg_sl ([.ref gx, .int p0, .int p1, .int p2, .ref go]) ++ List.replicate (6 - (lg_sl ([.ref gx, .int p0, .int p1, .int p2, .ref go])).length) Slot.unset).toArray = ls at hl ⊢
  have hl : lv_has ls 6 [(0, .ref gx), (1, .int p0), (2, .int p1), (3, .int p2), (4, .ref go)] := hl
  refine lv_aload hx hb dL_successor_0 (lv_at hl 4 rfl) ?_
  refine lv_iconst (v := 0) hx hb dL_successor_2 (by decide) ?_
  refine lv_aload_n hx hb dL_successor_3 rfl (lv_at hl 0 rfl) ?_
  refine lv_iload_n hx hb dL_successor_4 rfl (lv_at hl 1 rfl) ?_
  refine lv_iload_n hx hb dL_successor_5 rfl (lv_at hl 2 rfl) ?_
  refine lv_iload_n hx hb dL_successor_6 rfl (lv_at hl 3 rfl) ?_
  have hPc := hP.sub (ws' := [(gx, .inr (11, [.ref gq1, .ref gq4, .ref gq13, .ref gq136, .ref gq137, .ref gq138, .ref gq172, .ref gq184, .ref gq150, .ref gq161, .int (-1)])), (gq150, .inr (2, [.int 0, .ref gq151, .ref gq152, .ref gq153, .ref gq154, .ref gq155, .ref gq156, .int 0, .ref gq157, .ref gq158, .ref gq159, .int 0, .ref gq160]))]) [0, 1] rfl
  have hDc := hD.sub (ws' := [(gx, .inr (11, [.ref gq1, .ref gq4, .ref gq13, .ref gq136, .ref gq137, .ref gq138, .ref gq172, .ref gq184, .ref gq150, .ref gq161, .int (-1)])), (gq150, .inr (2, [.int 0, .ref gq151, .ref gq152, .ref gq153, .ref gq154, .ref gq155, .ref gq156, .int 0, .ref gq157, .ref gq158, .ref gq159, .int 0, .ref gq160]))]) [0, 1] (by decide) rfl
  have hKc := hK.sub (tys' := []) [] rfl
  have hFc := va_free (wc := [(gx, .inr (11, [.ref gq1, .ref gq4, .ref gq13, .ref gq136, .ref gq137, .ref gq138, .ref gq172, .ref gq184, .ref gq150, .ref gq161, .int (-1)])), (gq150, .inr (2, [.int 0, .ref gq151, .ref gq152, .ref gq153, .ref gq154, .ref gq155, .ref gq156, .int 0, .ref gq157, .ref gq158, .ref gq159, .int 0, .ref gq160]))]) hD hS hA [0, 1] rfl
  refine vx_calli (vx_runV (As := [.int p0, .int p1, .int p2]) (rest := [.int 0, .ref go]) ⟨hx, hb, hml, hown, hts⟩ (kX11_successor l dC dI (gx := gx) (gq1 := gq1) (gq4 := gq4) (gq13 := gq13) (gq136 := gq136) (gq137 := gq137) (gq138 := gq138) (gq150 := gq150) (gq151 := gq151) (gq152 := gq152) (gq153 := gq153) (gq154 := gq154) (gq155 := gq155) (gq156 := gq156) (gq157 := gq157) (gq158 := gq158) (gq159 := gq159) (gq160 := gq160) (gq161 := gq161) (gq172 := gq172) (gq184 := gq184) (p0 := p0) (p1 := p1) (p2 := p2) (sz := _) (hl9 := hl9)) (cwV 3 hts (gi_V qw496 qw497 qw498 qw222 (gi_z qw495)) rfl rfl rfl (by decide +kernel) ⟨Nat.le_of_ble_eq_true rfl, Nat.le_of_ble_eq_true rfl⟩) ⟨PRE.blind, va_recv hKc hPc (ci := 11) (q0 := 0) rfl rfl, PRE.of hE hS hFc hPc hKc hDc⟩ rfl rfl hl.1 rfl (lv_room (Nat.le_of_ble_eq_true rfl)) dL_successor_7 ⟨Nat.le_of_ble_eq_true rfl, Nat.le_of_ble_eq_true rfl⟩) hS (fun q _ h => hFc q h) hFc (fun q _ h => hFc q h) (fun E ce q9 u t H locs ht hvm hw hB hz1 hk1 hS hce hcv hcl => ?_) (fun _ u t H locs ht hvm hw hB hz1 hk1 hS => hw.elim)
  obtain ⟨rfl, hB⟩ := hB
  obtain ⟨hP, hD, hK⟩ := JOIN (wr := []) hP hD hK [0, 1] [] [] rfl rfl (by decide) (by decide) rfl hk1 hFc ht hvm hB
  have hP : va_P (dC, dI) cls [] H := hP
  have hD : va_D A [] := hD
  have hK : va_K (dC, dI) cls [] s := hK
  refine vx_widen (k := 1) (n := 6) (Nat.le_of_ble_eq_true rfl) (Nat.le_of_ble_eq_true rfl) ?_
  refine vx_catch (own := RL) (name := "java/lang/IndexOutOfBoundsException") hown [] ⟨0, 12, 15, 24⟩ [] (htab.trans rfl) (fun z hz => by cases hz) (by decide) (by decide) (hts _ qw462) (hE.word (List.mem_append_right _ (tbl_9 (i := 38) rfl)) rfl) hce hcv hcl ?_
  refine lv_astore (lv' := [(5, .ref q9), (0, .ref gx), (1, .int p0), (2, .int p1), (3, .int p2), (4, .ref go)]) hx hb dL_successor_15 hl (by decide) rfl (fun ls hl => ?_)
  refine lv_iconst (v := 1) hx hb dL_successor_17 (by decide) ?_
  have hP9 : va_P (dC, dI) cls [] H := hP.sub [] rfl
  have hD9 : va_D A [] := hD.sub [] (by decide) rfl
  have hK9 : va_K (dC, dI) cls [] s := hK.sub [] rfl
  exact W.iret (v := 1) hx hb hr (fun t ht hW => ⟨⟨1, (), rfl, rfl, ⟨by rw [ht]; exact hP9, va_K.moved hW.alike hK9, hD9⟩⟩, hS.F ht⟩) hS.2.2 dL_successor_18
set_option maxHeartbeats 4000000 in
set_option maxRecDepth 100000 in
theorem kL_endValue {zs : Nat × Nat} (l : Launch) (dC : Nat → ClassId) (dI : Nat → Nat → Nat) (gx : Nat) (gq1 : Nat) (gq4 : Nat) (gq13 : Nat) (gq136 : Nat) (gq137 : Nat) (gq138 : Nat) (gq150 : Nat) (gq151 : Nat) (gq152 : Nat) (gq153 : Nat) (gq154 : Nat) (gq155 : Nat) (gq156 : Nat) (gq157 : Nat) (gq158 : Nat) (gq159 : Nat) (gq160 : Nat) (gq161 : Nat) (gq172 : Nat) (gq184 : Nat) (go : Nat) (p0 : Int32) (p1 : Int32) (sz : Nat) (hl9 : l.stackTraces = false)  : Met l yL_endValue (wh yL_endValue cL_endValue 5 (Option.some Jvm.ClassFile.FieldType.int) [(0, 10, 13, 24)]) ({ frames := 9, cells := 1, slots := 6, locals := 165 }) (va_Pc [.ref gx, .int p0, .int p1, .ref go] (PRE zs dC dI [(gx, .inr (11, [.ref gq1, .ref gq4, .ref gq13, .ref gq136, .ref gq137, .ref gq138, .ref gq172, .ref gq184, .ref gq150, .ref gq161, .int (-1)])), (gq150, .inr (2, [.int 0, .ref gq151, .ref gq152, .ref gq153, .ref gq154, .ref gq155, .ref gq156, .int 0, .ref gq157, .ref gq158, .ref gq159, .int 0, .ref gq160]))] [] sz)) (va_Qi (fun (r : Int32) (_ : Unit) => r = 1) (fun _ t => POST dC dI [] [] (va_A [(gx, .inr (11, [.ref gq1, .ref gq4, .ref gq13, .ref gq136, .ref gq137, .ref gq138, .ref gq172, .ref gq184, .ref gq150, .ref gq161, .int (-1)])), (gq150, .inr (2, [.int 0, .ref gq151, .ref gq152, .ref gq153, .ref gq154, .ref gq155, .ref gq156, .int 0, .ref gq157, .ref gq158, .ref gq159, .int 0, .ref gq160]))] sz) t) (va_A [(gx, .inr (11, [.ref gq1, .ref gq4, .ref gq13, .ref gq136, .ref gq137, .ref gq138, .ref gq172, .ref gq184, .ref gq150, .ref gq161, .int (-1)])), (gq150, .inr (2, [.int 0, .ref gq151, .ref gq152, .ref gq153, .ref gq154, .ref gq155, .ref gq156, .int 0, .ref gq157, .ref gq158, .ref gq159, .int 0, .ref gq160]))] sz)) 1 6 (va_A [(gx, .inr (11, [.ref gq1, .ref gq4, .ref gq13, .ref gq136, .ref gq137, .ref gq138, .ref gq172, .ref gq184, .ref gq150, .ref gq161, .int (-1)])), (gq150, .inr (2, [.int 0, .ref gq151, .ref gq152, .ref gq153, .ref gq154, .ref gq155, .ref gq156, .int 0, .ref gq157, .ref gq158, .ref gq159, .int 0, .ref gq160]))] sz) := by
  refine va_MetW (cc := cL_endValue) (maxL := 5) (ret := (Option.some Jvm.ClassFile.FieldType.int)) (hh := [(0, 10, 13, 24)]) (by decide) rfl ?_
  intro p e s m args below meth c s₁ B hml hv
  obtain ⟨rfl, hsz, hP, hK, hD0, hE⟩ := hv
  have hx := B.exec
  have hb := B.bytes
  have hr := B.returns
  have hts0 := atoms_spec (ws := wh yL_endValue cL_endValue 5 (Option.some Jvm.ClassFile.FieldType.int) [(0, 10, 13, 24)]) B.pre
  have htab := vx_table B (hts0 _ List.mem_cons_self)
  have hts : ∀ w ∈ gw, w.before _ s = true := fun w h => hts0 w (List.mem_cons_of_mem _ h)
  have hown : s.vm.findClass RL = some m.cls := findClass_of_methodNamed B.named
  have hlocks := B.notSynchronized
  subst hsz
  have hD := hD0.self (sz := s.heap.size)
  generalize hAe : va_A [(gx, .inr (11, [.ref gq1, .ref gq4, .ref gq13, .ref gq136, .ref gq137, .ref gq138, .ref gq172, .ref gq184, .ref gq150, .ref gq161, .int (-1)])), (gq150, .inr (2, [.int 0, .ref gq151, .ref gq152, .ref gq153, .ref gq154, .ref gq155, .ref gq156, .int 0, .ref gq157, .ref gq158, .ref gq159, .int 0, .ref gq160]))] s.heap.size = A at hD hE ⊢
  have hA : ∀ q : Nat, s.heap.size ≤ q → A q := fun q h => by rw [← hAe]; exact Or.inr h
  have hS : va_S A s.heap s.heap [] := va_S.rf
  have hP : va_P (dC, dI) cls [(gx, .inr (11, [.ref gq1, .ref gq4, .ref gq13, .ref gq136, .ref gq137, .ref gq138, .ref gq172, .ref gq184, .ref gq150, .ref gq161, .int (-1)])), (gq150, .inr (2, [.int 0, .ref gq151, .ref gq152, .ref gq153, .ref gq154, .ref gq155, .ref gq156, .int 0, .ref gq157, .ref gq158, .ref gq159, .int 0, .ref gq160]))] s.heap := hP
  have hl := lv_entry ([.ref gx, .int p0, .int p1, .ref go]) (n := 5) (Nat.le_of_ble_eq_true rfl)
  rw [lg_entry_eq]
  generalize (lg_sl ([.ref gx, .int p0, .int p1, .ref go]) ++ List.replicate (5 - (lg_sl ([.ref gx, .int p0, .int p1, .ref go])).length) Slot.unset).toArray = ls at hl ⊢
  have hl : lv_has ls 5 [(0, .ref gx), (1, .int p0), (2, .int p1), (3, .ref go)] := hl
  refine lv_aload_n hx hb dL_endValue_0 rfl (lv_at hl 3 rfl) ?_
  refine lv_iconst (v := 0) hx hb dL_endValue_1 (by decide) ?_
  refine lv_aload_n hx hb dL_endValue_2 rfl (lv_at hl 0 rfl) ?_
  refine lv_iload_n hx hb dL_endValue_3 rfl (lv_at hl 1 rfl) ?_
  refine lv_iload_n hx hb dL_endValue_4 rfl (lv_at hl 2 rfl) ?_
  have hPc := hP.sub (ws' := [(gx, .inr (11, [.ref gq1, .ref gq4, .ref gq13, .ref gq136, .ref gq137, .ref gq138, .ref gq172, .ref gq184, .ref gq150, .ref gq161, .int (-1)])), (gq150, .inr (2, [.int 0, .ref gq151, .ref gq152, .ref gq153, .ref gq154, .ref gq155, .ref gq156, .int 0, .ref gq157, .ref gq158, .ref gq159, .int 0, .ref gq160]))]) [0, 1] rfl
  have hDc := hD.sub (ws' := [(gx, .inr (11, [.ref gq1, .ref gq4, .ref gq13, .ref gq136, .ref gq137, .ref gq138, .ref gq172, .ref gq184, .ref gq150, .ref gq161, .int (-1)])), (gq150, .inr (2, [.int 0, .ref gq151, .ref gq152, .ref gq153, .ref gq154, .ref gq155, .ref gq156, .int 0, .ref gq157, .ref gq158, .ref gq159, .int 0, .ref gq160]))]) [0, 1] (by decide) rfl
  have hKc := hK.sub (tys' := []) [] rfl
  have hFc := va_free (wc := [(gx, .inr (11, [.ref gq1, .ref gq4, .ref gq13, .ref gq136, .ref gq137, .ref gq138, .ref gq172, .ref gq184, .ref gq150, .ref gq161, .int (-1)])), (gq150, .inr (2, [.int 0, .ref gq151, .ref gq152, .ref gq153, .ref gq154, .ref gq155, .ref gq156, .int 0, .ref gq157, .ref gq158, .ref gq159, .int 0, .ref gq160]))]) hD hS hA [0, 1] rfl
  refine vx_calli (vx_runV (As := [.int p0, .int p1]) (rest := [.int 0, .ref go]) ⟨hx, hb, hml, hown, hts⟩ (kX11_endValue l dC dI (gx := gx) (gq1 := gq1) (gq4 := gq4) (gq13 := gq13) (gq136 := gq136) (gq137 := gq137) (gq138 := gq138) (gq150 := gq150) (gq151 := gq151) (gq152 := gq152) (gq153 := gq153) (gq154 := gq154) (gq155 := gq155) (gq156 := gq156) (gq157 := gq157) (gq158 := gq158) (gq159 := gq159) (gq160 := gq160) (gq161 := gq161) (gq172 := gq172) (gq184 := gq184) (p0 := p0) (p1 := p1) (sz := _) (hl9 := hl9)) (cwV 2 hts (gi_V qw500 qw501 qw502 qw222 (gi_z qw499)) rfl rfl rfl (by decide +kernel) ⟨Nat.le_of_ble_eq_true rfl, Nat.le_of_ble_eq_true rfl⟩) ⟨PRE.blind, va_recv hKc hPc (ci := 11) (q0 := 0) rfl rfl, PRE.of hE hS hFc hPc hKc hDc⟩ rfl rfl hl.1 rfl (lv_room (Nat.le_of_ble_eq_true rfl)) dL_endValue_5 ⟨Nat.le_of_ble_eq_true rfl, Nat.le_of_ble_eq_true rfl⟩) hS (fun q _ h => hFc q h) hFc (fun q _ h => hFc q h) (fun E ce q9 u t H locs ht hvm hw hB hz1 hk1 hS hce hcv hcl => ?_) (fun _ u t H locs ht hvm hw hB hz1 hk1 hS => hw.elim)
  obtain ⟨rfl, hB⟩ := hB
  obtain ⟨hP, hD, hK⟩ := JOIN (wr := []) hP hD hK [0, 1] [] [] rfl rfl (by decide) (by decide) rfl hk1 hFc ht hvm hB
  have hP : va_P (dC, dI) cls [] H := hP
  have hD : va_D A [] := hD
  have hK : va_K (dC, dI) cls [] s := hK
  refine vx_widen (k := 1) (n := 6) (Nat.le_of_ble_eq_true rfl) (Nat.le_of_ble_eq_true rfl) ?_
  refine vx_catch (own := RL) (name := "java/lang/IndexOutOfBoundsException") hown [] ⟨0, 10, 13, 24⟩ [] (htab.trans rfl) (fun z hz => by cases hz) (by decide) (by decide) (hts _ qw462) (hE.word (List.mem_append_right _ (tbl_9 (i := 38) rfl)) rfl) hce hcv hcl ?_
  refine lv_astore (lv' := [(4, .ref q9), (0, .ref gx), (1, .int p0), (2, .int p1), (3, .ref go)]) hx hb dL_endValue_13 hl (by decide) rfl (fun ls hl => ?_)
  refine lv_iconst (v := 1) hx hb dL_endValue_15 (by decide) ?_
  have hP9 : va_P (dC, dI) cls [] H := hP.sub [] rfl
  have hD9 : va_D A [] := hD.sub [] (by decide) rfl
  have hK9 : va_K (dC, dI) cls [] s := hK.sub [] rfl
  exact W.iret (v := 1) hx hb hr (fun t ht hW => ⟨⟨1, (), rfl, rfl, ⟨by rw [ht]; exact hP9, va_K.moved hW.alike hK9, hD9⟩⟩, hS.F ht⟩) hS.2.2 dL_endValue_16
set_option maxHeartbeats 4000000 in
set_option maxRecDepth 100000 in
theorem kL_phis {zs : Nat × Nat} (l : Launch) (dC : Nat → ClassId) (dI : Nat → Nat → Nat) (gx : Nat) (gq1 : Nat) (gq4 : Nat) (gq13 : Nat) (gq136 : Nat) (gq137 : Nat) (gq138 : Nat) (gq150 : Nat) (gq151 : Nat) (gq152 : Nat) (gq153 : Nat) (gq154 : Nat) (gq155 : Nat) (gq156 : Nat) (gq157 : Nat) (gq158 : Nat) (gq159 : Nat) (gq160 : Nat) (gq161 : Nat) (gq172 : Nat) (gq184 : Nat) (go : Nat) (p0 : Int32) (p1 : Int32) (sz : Nat) (hl9 : l.stackTraces = false)  : Met l yL_phis (wh yL_phis cL_phis 5 (Option.some Jvm.ClassFile.FieldType.int) [(0, 10, 13, 24)]) ({ frames := 9, cells := 1, slots := 6, locals := 165 }) (va_Pc [.ref gx, .int p0, .int p1, .ref go] (PRE zs dC dI [(gx, .inr (11, [.ref gq1, .ref gq4, .ref gq13, .ref gq136, .ref gq137, .ref gq138, .ref gq172, .ref gq184, .ref gq150, .ref gq161, .int (-1)])), (gq150, .inr (2, [.int 0, .ref gq151, .ref gq152, .ref gq153, .ref gq154, .ref gq155, .ref gq156, .int 0, .ref gq157, .ref gq158, .ref gq159, .int 0, .ref gq160]))] [] sz)) (va_Qi (fun (r : Int32) (_ : Unit) => r = 1) (fun _ t => POST dC dI [] [] (va_A [(gx, .inr (11, [.ref gq1, .ref gq4, .ref gq13, .ref gq136, .ref gq137, .ref gq138, .ref gq172, .ref gq184, .ref gq150, .ref gq161, .int (-1)])), (gq150, .inr (2, [.int 0, .ref gq151, .ref gq152, .ref gq153, .ref gq154, .ref gq155, .ref gq156, .int 0, .ref gq157, .ref gq158, .ref gq159, .int 0, .ref gq160]))] sz) t) (va_A [(gx, .inr (11, [.ref gq1, .ref gq4, .ref gq13, .ref gq136, .ref gq137, .ref gq138, .ref gq172, .ref gq184, .ref gq150, .ref gq161, .int (-1)])), (gq150, .inr (2, [.int 0, .ref gq151, .ref gq152, .ref gq153, .ref gq154, .ref gq155, .ref gq156, .int 0, .ref gq157, .ref gq158, .ref gq159, .int 0, .ref gq160]))] sz)) 1 6 (va_A [(gx, .inr (11, [.ref gq1, .ref gq4, .ref gq13, .ref gq136, .ref gq137, .ref gq138, .ref gq172, .ref gq184, .ref gq150, .ref gq161, .int (-1)])), (gq150, .inr (2, [.int 0, .ref gq151, .ref gq152, .ref gq153, .ref gq154, .ref gq155, .ref gq156, .int 0, .ref gq157, .ref gq158, .ref gq159, .int 0, .ref gq160]))] sz) := by
  refine va_MetW (cc := cL_phis) (maxL := 5) (ret := (Option.some Jvm.ClassFile.FieldType.int)) (hh := [(0, 10, 13, 24)]) (by decide) rfl ?_
  intro p e s m args below meth c s₁ B hml hv
  obtain ⟨rfl, hsz, hP, hK, hD0, hE⟩ := hv
  have hx := B.exec
  have hb := B.bytes
  have hr := B.returns
  have hts0 := atoms_spec (ws := wh yL_phis cL_phis 5 (Option.some Jvm.ClassFile.FieldType.int) [(0, 10, 13, 24)]) B.pre
  have htab := vx_table B (hts0 _ List.mem_cons_self)
  have hts : ∀ w ∈ gw, w.before _ s = true := fun w h => hts0 w (List.mem_cons_of_mem _ h)
  have hown : s.vm.findClass RL = some m.cls := findClass_of_methodNamed B.named
  have hlocks := B.notSynchronized
  subst hsz
  have hD := hD0.self (sz := s.heap.size)
  generalize hAe : va_A [(gx, .inr (11, [.ref gq1, .ref gq4, .ref gq13, .ref gq136, .ref gq137, .ref gq138, .ref gq172, .ref gq184, .ref gq150, .ref gq161, .int (-1)])), (gq150, .inr (2, [.int 0, .ref gq151, .ref gq152, .ref gq153, .ref gq154, .ref gq155, .ref gq156, .int 0, .ref gq157, .ref gq158, .ref gq159, .int 0, .ref gq160]))] s.heap.size = A at hD hE ⊢
  have hA : ∀ q : Nat, s.heap.size ≤ q → A q := fun q h => by rw [← hAe]; exact Or.inr h
  have hS : va_S A s.heap s.heap [] := va_S.rf
  have hP : va_P (dC, dI) cls [(gx, .inr (11, [.ref gq1, .ref gq4, .ref gq13, .ref gq136, .ref gq137, .ref gq138, .ref gq172, .ref gq184, .ref gq150, .ref gq161, .int (-1)])), (gq150, .inr (2, [.int 0, .ref gq151, .ref gq152, .ref gq153, .ref gq154, .ref gq155, .ref gq156, .int 0, .ref gq157, .ref gq158, .ref gq159, .int 0, .ref gq160]))] s.heap := hP
  have hl := lv_entry ([.ref gx, .int p0, .int p1, .ref go]) (n := 5) (Nat.le_of_ble_eq_true rfl)
  rw [lg_entry_eq]
  generalize (lg_sl ([.ref gx, .int p0, .int p1, .ref go]) ++ List.replicate (5 - (lg_sl ([.ref gx, .int p0, .int p1, .ref go])).length) Slot.unset).toArray = ls at hl ⊢
  have hl : lv_has ls 5 [(0, .ref gx), (1, .int p0), (2, .int p1), (3, .ref go)] := hl
  refine lv_aload_n hx hb dL_phis_0 rfl (lv_at hl 3 rfl) ?_
  refine lv_iconst (v := 0) hx hb dL_phis_1 (by decide) ?_
  refine lv_aload_n hx hb dL_phis_2 rfl (lv_at hl 0 rfl) ?_
  refine lv_iload_n hx hb dL_phis_3 rfl (lv_at hl 1 rfl) ?_
  refine lv_iload_n hx hb dL_phis_4 rfl (lv_at hl 2 rfl) ?_
  have hPc := hP.sub (ws' := [(gx, .inr (11, [.ref gq1, .ref gq4, .ref gq13, .ref gq136, .ref gq137, .ref gq138, .ref gq172, .ref gq184, .ref gq150, .ref gq161, .int (-1)])), (gq150, .inr (2, [.int 0, .ref gq151, .ref gq152, .ref gq153, .ref gq154, .ref gq155, .ref gq156, .int 0, .ref gq157, .ref gq158, .ref gq159, .int 0, .ref gq160]))]) [0, 1] rfl
  have hDc := hD.sub (ws' := [(gx, .inr (11, [.ref gq1, .ref gq4, .ref gq13, .ref gq136, .ref gq137, .ref gq138, .ref gq172, .ref gq184, .ref gq150, .ref gq161, .int (-1)])), (gq150, .inr (2, [.int 0, .ref gq151, .ref gq152, .ref gq153, .ref gq154, .ref gq155, .ref gq156, .int 0, .ref gq157, .ref gq158, .ref gq159, .int 0, .ref gq160]))]) [0, 1] (by decide) rfl
  have hKc := hK.sub (tys' := []) [] rfl
  have hFc := va_free (wc := [(gx, .inr (11, [.ref gq1, .ref gq4, .ref gq13, .ref gq136, .ref gq137, .ref gq138, .ref gq172, .ref gq184, .ref gq150, .ref gq161, .int (-1)])), (gq150, .inr (2, [.int 0, .ref gq151, .ref gq152, .ref gq153, .ref gq154, .ref gq155, .ref gq156, .int 0, .ref gq157, .ref gq158, .ref gq159, .int 0, .ref gq160]))]) hD hS hA [0, 1] rfl
  refine vx_calli (vx_runV (As := [.int p0, .int p1]) (rest := [.int 0, .ref go]) ⟨hx, hb, hml, hown, hts⟩ (kX11_phis l dC dI (gx := gx) (gq1 := gq1) (gq4 := gq4) (gq13 := gq13) (gq136 := gq136) (gq137 := gq137) (gq138 := gq138) (gq150 := gq150) (gq151 := gq151) (gq152 := gq152) (gq153 := gq153) (gq154 := gq154) (gq155 := gq155) (gq156 := gq156) (gq157 := gq157) (gq158 := gq158) (gq159 := gq159) (gq160 := gq160) (gq161 := gq161) (gq172 := gq172) (gq184 := gq184) (p0 := p0) (p1 := p1) (sz := _) (hl9 := hl9)) (cwV 2 hts (gi_V qw504 qw505 qw506 qw222 (gi_z qw503)) rfl rfl rfl (by decide +kernel) ⟨Nat.le_of_ble_eq_true rfl, Nat.le_of_ble_eq_true rfl⟩) ⟨PRE.blind, va_recv hKc hPc (ci := 11) (q0 := 0) rfl rfl, PRE.of hE hS hFc hPc hKc hDc⟩ rfl rfl hl.1 rfl (lv_room (Nat.le_of_ble_eq_true rfl)) dL_phis_5 ⟨Nat.le_of_ble_eq_true rfl, Nat.le_of_ble_eq_true rfl⟩) hS (fun q _ h => hFc q h) hFc (fun q _ h => hFc q h) (fun E ce q9 u t H locs ht hvm hw hB hz1 hk1 hS hce hcv hcl => ?_) (fun _ u t H locs ht hvm hw hB hz1 hk1 hS => hw.elim)
  obtain ⟨rfl, hB⟩ := hB
  obtain ⟨hP, hD, hK⟩ := JOIN (wr := []) hP hD hK [0, 1] [] [] rfl rfl (by decide) (by decide) rfl hk1 hFc ht hvm hB
  have hP : va_P (dC, dI) cls [] H := hP
  have hD : va_D A [] := hD
  have hK : va_K (dC, dI) cls [] s := hK
  refine vx_widen (k := 1) (n := 6) (Nat.le_of_ble_eq_true rfl) (Nat.le_of_ble_eq_true rfl) ?_
  refine vx_catch (own := RL) (name := "java/lang/IndexOutOfBoundsException") hown [] ⟨0, 10, 13, 24⟩ [] (htab.trans rfl) (fun z hz => by cases hz) (by decide) (by decide) (hts _ qw462) (hE.word (List.mem_append_right _ (tbl_9 (i := 38) rfl)) rfl) hce hcv hcl ?_
  refine lv_astore (lv' := [(4, .ref q9), (0, .ref gx), (1, .int p0), (2, .int p1), (3, .ref go)]) hx hb dL_phis_13 hl (by decide) rfl (fun ls hl => ?_)
  refine lv_iconst (v := 1) hx hb dL_phis_15 (by decide) ?_
  have hP9 : va_P (dC, dI) cls [] H := hP.sub [] rfl
  have hD9 : va_D A [] := hD.sub [] (by decide) rfl
  have hK9 : va_K (dC, dI) cls [] s := hK.sub [] rfl
  exact W.iret (v := 1) hx hb hr (fun t ht hW => ⟨⟨1, (), rfl, rfl, ⟨by rw [ht]; exact hP9, va_K.moved hW.alike hK9, hD9⟩⟩, hS.F ht⟩) hS.2.2 dL_phis_16
set_option maxHeartbeats 4000000 in
set_option maxRecDepth 100000 in
theorem kL_phiGives {zs : Nat × Nat} (l : Launch) (dC : Nat → ClassId) (dI : Nat → Nat → Nat) (gx : Nat) (gq1 : Nat) (gq4 : Nat) (gq13 : Nat) (gq136 : Nat) (gq137 : Nat) (gq138 : Nat) (gq150 : Nat) (gq151 : Nat) (gq152 : Nat) (gq153 : Nat) (gq154 : Nat) (gq155 : Nat) (gq156 : Nat) (gq157 : Nat) (gq158 : Nat) (gq159 : Nat) (gq160 : Nat) (gq161 : Nat) (gq172 : Nat) (gq184 : Nat) (go : Nat) (p0 : Int32) (p1 : Int32) (p2 : Int32) (sz : Nat) (hl9 : l.stackTraces = false)  : Met l yL_phiGives (wh yL_phiGives cL_phiGives 6 (Option.some Jvm.ClassFile.FieldType.int) [(0, 12, 15, 24)]) ({ frames := 9, cells := 1, slots := 6, locals := 168 }) (va_Pc [.ref gx, .int p0, .int p1, .int p2, .ref go] (PRE zs dC dI [(gx, .inr (11, [.ref gq1, .ref gq4, .ref gq13, .ref gq136, .ref gq137, .ref gq138, .ref gq172, .ref gq184, .ref gq150, .ref gq161, .int (-1)])), (gq150, .inr (2, [.int 0, .ref gq151, .ref gq152, .ref gq153, .ref gq154, .ref gq155, .ref gq156, .int 0, .ref gq157, .ref gq158, .ref gq159, .int 0, .ref gq160]))] [] sz)) (va_Qi (fun (r : Int32) (_ : Unit) => r = 1) (fun _ t => POST dC dI [] [] (va_A [(gx, .inr (11, [.ref gq1, .ref gq4, .ref gq13, .ref gq136, .ref gq137, .ref gq138, .ref gq172, .ref gq184, .ref gq150, .ref gq161, .int (-1)])), (gq150, .inr (2, [.int 0, .ref gq151, .ref gq152, .ref gq153, .ref gq154, .ref gq155, .ref gq156, .int 0, .ref gq157, .ref gq158, .ref gq159, .int 0, .ref gq160]))] sz) t) (va_A [(gx, .inr (11, [.ref gq1, .ref gq4, .ref gq13, .ref gq136, .ref gq137, .ref gq138, .ref gq172, .ref gq184, .ref gq150, .ref gq161, .int (-1)])), (gq150, .inr (2, [.int 0, .ref gq151, .ref gq152, .ref gq153, .ref gq154, .ref gq155, .ref gq156, .int 0, .ref gq157, .ref gq158, .ref gq159, .int 0, .ref gq160]))] sz)) 1 6 (va_A [(gx, .inr (11, [.ref gq1, .ref gq4, .ref gq13, .ref gq136, .ref gq137, .ref gq138, .ref gq172, .ref gq184, .ref gq150, .ref gq161, .int (-1)])), (gq150, .inr (2, [.int 0, .ref gq151, .ref gq152, .ref gq153, .ref gq154, .ref gq155, .ref gq156, .int 0, .ref gq157, .ref gq158, .ref gq159, .int 0, .ref gq160]))] sz) := by
  refine va_MetW (cc := cL_phiGives) (maxL := 6) (ret := (Option.some Jvm.ClassFile.FieldType.int)) (hh := [(0, 12, 15, 24)]) (by decide) rfl ?_
  intro p e s m args below meth c s₁ B hml hv
  obtain ⟨rfl, hsz, hP, hK, hD0, hE⟩ := hv
  have hx := B.exec
  have hb := B.bytes
  have hr := B.returns
  have hts0 := atoms_spec (ws := wh yL_phiGives cL_phiGives 6 (Option.some Jvm.ClassFile.FieldType.int) [(0, 12, 15, 24)]) B.pre
  have htab := vx_table B (hts0 _ List.mem_cons_self)
  have hts : ∀ w ∈ gw, w.before _ s = true := fun w h => hts0 w (List.mem_cons_of_mem _ h)
  have hown : s.vm.findClass RL = some m.cls := findClass_of_methodNamed B.named
  have hlocks := B.notSynchronized
  subst hsz
  have hD := hD0.self (sz := s.heap.size)
  generalize hAe : va_A [(gx, .inr (11, [.ref gq1, .ref gq4, .ref gq13, .ref gq136, .ref gq137, .ref gq138, .ref gq172, .ref gq184, .ref gq150, .ref gq161, .int (-1)])), (gq150, .inr (2, [.int 0, .ref gq151, .ref gq152, .ref gq153, .ref gq154, .ref gq155, .ref gq156, .int 0, .ref gq157, .ref gq158, .ref gq159, .int 0, .ref gq160]))] s.heap.size = A at hD hE ⊢
  have hA : ∀ q : Nat, s.heap.size ≤ q → A q := fun q h => by rw [← hAe]; exact Or.inr h
  have hS : va_S A s.heap s.heap [] := va_S.rf
  have hP : va_P (dC, dI) cls [(gx, .inr (11, [.ref gq1, .ref gq4, .ref gq13, .ref gq136, .ref gq137, .ref gq138, .ref gq172, .ref gq184, .ref gq150, .ref gq161, .int (-1)])), (gq150, .inr (2, [.int 0, .ref gq151, .ref gq152, .ref gq153, .ref gq154, .ref gq155, .ref gq156, .int 0, .ref gq157, .ref gq158, .ref gq159, .int 0, .ref gq160]))] s.heap := hP
  have hl := lv_entry ([.ref gx, .int p0, .int p1, .int p2, .ref go]) (n := 6) (Nat.le_of_ble_eq_true rfl)
  rw [lg_entry_eq]
  generalize (lg_sl ([.ref gx, .int p0, .int p1, .int p2, .ref go]) ++ List.replicate (6 - (lg_sl ([.ref gx, .int p0, .int p1, .int p2, .ref go])).length) Slot.unset).toArray = ls at hl ⊢
  have hl : lv_has ls 6 [(0, .ref gx), (1, .int p0), (2, .int p1), (3, .int p2), (4, .ref go)] := hl
  refine lv_aload hx hb dL_phiGives_0 (lv_at hl 4 rfl) ?_
  refine lv_iconst (v := 0) hx hb dL_phiGives_2 (by decide) ?_
  refine lv_aload_n hx hb dL_phiGives_3 rfl (lv_at hl 0 rfl) ?_
  refine lv_iload_n hx hb dL_phiGives_4 rfl (lv_at hl 1 rfl) ?_
  refine lv_iload_n hx hb dL_phiGives_5 rfl (lv_at hl 2 rfl) ?_
  refine lv_iload_n hx hb dL_phiGives_6 rfl (lv_at hl 3 rfl) ?_
  have hPc := hP.sub (ws' := [(gx, .inr (11, [.ref gq1, .ref gq4, .ref gq13, .ref gq136, .ref gq137, .ref gq138, .ref gq172, .ref gq184, .ref gq150, .ref gq161, .int (-1)])), (gq150, .inr (2, [.int 0, .ref gq151, .ref gq152, .ref gq153, .ref gq154, .ref gq155, .ref gq156, .int 0, .ref gq157, .ref gq158, .ref gq159, .int 0, .ref gq160]))]) [0, 1] rfl
  have hDc := hD.sub (ws' := [(gx, .inr (11, [.ref gq1, .ref gq4, .ref gq13, .ref gq136, .ref gq137, .ref gq138, .ref gq172, .ref gq184, .ref gq150, .ref gq161, .int (-1)])), (gq150, .inr (2, [.int 0, .ref gq151, .ref gq152, .ref gq153, .ref gq154, .ref gq155, .ref gq156, .int 0, .ref gq157, .ref gq158, .ref gq159, .int 0, .ref gq160]))]) [0, 1] (by decide) rfl
  have hKc := hK.sub (tys' := []) [] rfl
  have hFc := va_free (wc := [(gx, .inr (11, [.ref gq1, .ref gq4, .ref gq13, .ref gq136, .ref gq137, .ref gq138, .ref gq172, .ref gq184, .ref gq150, .ref gq161, .int (-1)])), (gq150, .inr (2, [.int 0, .ref gq151, .ref gq152, .ref gq153, .ref gq154, .ref gq155, .ref gq156, .int 0, .ref gq157, .ref gq158, .ref gq159, .int 0, .ref gq160]))]) hD hS hA [0, 1] rfl
  refine vx_calli (vx_runV (As := [.int p0, .int p1, .int p2]) (rest := [.int 0, .ref go]) ⟨hx, hb, hml, hown, hts⟩ (kX11_phiGives l dC dI (gx := gx) (gq1 := gq1) (gq4 := gq4) (gq13 := gq13) (gq136 := gq136) (gq137 := gq137) (gq138 := gq138) (gq150 := gq150) (gq151 := gq151) (gq152 := gq152) (gq153 := gq153) (gq154 := gq154) (gq155 := gq155) (gq156 := gq156) (gq157 := gq157) (gq158 := gq158) (gq159 := gq159) (gq160 := gq160) (gq161 := gq161) (gq172 := gq172) (gq184 := gq184) (p0 := p0) (p1 := p1) (p2 := p2) (sz := _) (hl9 := hl9)) (cwV 3 hts (gi_V qw508 qw509 qw510 qw222 (gi_z qw507)) rfl rfl rfl (by decide +kernel) ⟨Nat.le_of_ble_eq_true rfl, Nat.le_of_ble_eq_true rfl⟩) ⟨PRE.blind, va_recv hKc hPc (ci := 11) (q0 := 0) rfl rfl, PRE.of hE hS hFc hPc hKc hDc⟩ rfl rfl hl.1 rfl (lv_room (Nat.le_of_ble_eq_true rfl)) dL_phiGives_7 ⟨Nat.le_of_ble_eq_true rfl, Nat.le_of_ble_eq_true rfl⟩) hS (fun q _ h => hFc q h) hFc (fun q _ h => hFc q h) (fun E ce q9 u t H locs ht hvm hw hB hz1 hk1 hS hce hcv hcl => ?_) (fun _ u t H locs ht hvm hw hB hz1 hk1 hS => hw.elim)
  obtain ⟨rfl, hB⟩ := hB
  obtain ⟨hP, hD, hK⟩ := JOIN (wr := []) hP hD hK [0, 1] [] [] rfl rfl (by decide) (by decide) rfl hk1 hFc ht hvm hB
  have hP : va_P (dC, dI) cls [] H := hP
  have hD : va_D A [] := hD
  have hK : va_K (dC, dI) cls [] s := hK
  refine vx_widen (k := 1) (n := 6) (Nat.le_of_ble_eq_true rfl) (Nat.le_of_ble_eq_true rfl) ?_
  refine vx_catch (own := RL) (name := "java/lang/IndexOutOfBoundsException") hown [] ⟨0, 12, 15, 24⟩ [] (htab.trans rfl) (fun z hz => by cases hz) (by decide) (by decide) (hts _ qw462) (hE.word (List.mem_append_right _ (tbl_9 (i := 38) rfl)) rfl) hce hcv hcl ?_
  refine lv_astore (lv' := [(5, .ref q9), (0, .ref gx), (1, .int p0), (2, .int p1), (3, .int p2), (4, .ref go)]) hx hb dL_phiGives_15 hl (by decide) rfl (fun ls hl => ?_)
  refine lv_iconst (v := 1) hx hb dL_phiGives_17 (by decide) ?_
  have hP9 : va_P (dC, dI) cls [] H := hP.sub [] rfl
  have hD9 : va_D A [] := hD.sub [] (by decide) rfl
  have hK9 : va_K (dC, dI) cls [] s := hK.sub [] rfl
  exact W.iret (v := 1) hx hb hr (fun t ht hW => ⟨⟨1, (), rfl, rfl, ⟨by rw [ht]; exact hP9, va_K.moved hW.alike hK9, hD9⟩⟩, hS.F ht⟩) hS.2.2 dL_phiGives_18
set_option maxHeartbeats 4000000 in
set_option maxRecDepth 100000 in
theorem kL_phiTakes {zs : Nat × Nat} (l : Launch) (dC : Nat → ClassId) (dI : Nat → Nat → Nat) (gx : Nat) (gq1 : Nat) (gq4 : Nat) (gq13 : Nat) (gq136 : Nat) (gq137 : Nat) (gq138 : Nat) (gq150 : Nat) (gq151 : Nat) (gq152 : Nat) (gq153 : Nat) (gq154 : Nat) (gq155 : Nat) (gq156 : Nat) (gq157 : Nat) (gq158 : Nat) (gq159 : Nat) (gq160 : Nat) (gq161 : Nat) (gq172 : Nat) (gq184 : Nat) (go : Nat) (p0 : Int32) (p1 : Int32) (p2 : Int32) (p3 : Int32) (sz : Nat) (hl9 : l.stackTraces = false)  : Met l yL_phiTakes (wh yL_phiTakes cL_phiTakes 7 (Option.some Jvm.ClassFile.FieldType.int) [(0, 14, 17, 24)]) ({ frames := 9, cells := 1, slots := 6, locals := 169 }) (va_Pc [.ref gx, .int p0, .int p1, .int p2, .int p3, .ref go] (PRE zs dC dI [(gx, .inr (11, [.ref gq1, .ref gq4, .ref gq13, .ref gq136, .ref gq137, .ref gq138, .ref gq172, .ref gq184, .ref gq150, .ref gq161, .int (-1)])), (gq150, .inr (2, [.int 0, .ref gq151, .ref gq152, .ref gq153, .ref gq154, .ref gq155, .ref gq156, .int 0, .ref gq157, .ref gq158, .ref gq159, .int 0, .ref gq160]))] [] sz)) (va_Qi (fun (r : Int32) (_ : Unit) => r = 1) (fun _ t => POST dC dI [] [] (va_A [(gx, .inr (11, [.ref gq1, .ref gq4, .ref gq13, .ref gq136, .ref gq137, .ref gq138, .ref gq172, .ref gq184, .ref gq150, .ref gq161, .int (-1)])), (gq150, .inr (2, [.int 0, .ref gq151, .ref gq152, .ref gq153, .ref gq154, .ref gq155, .ref gq156, .int 0, .ref gq157, .ref gq158, .ref gq159, .int 0, .ref gq160]))] sz) t) (va_A [(gx, .inr (11, [.ref gq1, .ref gq4, .ref gq13, .ref gq136, .ref gq137, .ref gq138, .ref gq172, .ref gq184, .ref gq150, .ref gq161, .int (-1)])), (gq150, .inr (2, [.int 0, .ref gq151, .ref gq152, .ref gq153, .ref gq154, .ref gq155, .ref gq156, .int 0, .ref gq157, .ref gq158, .ref gq159, .int 0, .ref gq160]))] sz)) 1 6 (va_A [(gx, .inr (11, [.ref gq1, .ref gq4, .ref gq13, .ref gq136, .ref gq137, .ref gq138, .ref gq172, .ref gq184, .ref gq150, .ref gq161, .int (-1)])), (gq150, .inr (2, [.int 0, .ref gq151, .ref gq152, .ref gq153, .ref gq154, .ref gq155, .ref gq156, .int 0, .ref gq157, .ref gq158, .ref gq159, .int 0, .ref gq160]))] sz) := by
  refine va_MetW (cc := cL_phiTakes) (maxL := 7) (ret := (Option.some Jvm.ClassFile.FieldType.int)) (hh := [(0, 14, 17, 24)]) (by decide) rfl ?_
  intro p e s m args below meth c s₁ B hml hv
  obtain ⟨rfl, hsz, hP, hK, hD0, hE⟩ := hv
  have hx := B.exec
  have hb := B.bytes
  have hr := B.returns
  have hts0 := atoms_spec (ws := wh yL_phiTakes cL_phiTakes 7 (Option.some Jvm.ClassFile.FieldType.int) [(0, 14, 17, 24)]) B.pre
  have htab := vx_table B (hts0 _ List.mem_cons_self)
  have hts : ∀ w ∈ gw, w.before _ s = true := fun w h => hts0 w (List.mem_cons_of_mem _ h)
  have hown : s.vm.findClass RL = some m.cls := findClass_of_methodNamed B.named
  have hlocks := B.notSynchronized
  subst hsz
  have hD := hD0.self (sz := s.heap.size)
  generalize hAe : va_A [(gx, .inr (11, [.ref gq1, .ref gq4, .ref gq13, .ref gq136, .ref gq137, .ref gq138, .ref gq172, .ref gq184, .ref gq150, .ref gq161, .int (-1)])), (gq150, .inr (2, [.int 0, .ref gq151, .ref gq152, .ref gq153, .ref gq154, .ref gq155, .ref gq156, .int 0, .ref gq157, .ref gq158, .ref gq159, .int 0, .ref gq160]))] s.heap.size = A at hD hE ⊢
  have hA : ∀ q : Nat, s.heap.size ≤ q → A q := fun q h => by rw [← hAe]; exact Or.inr h
  have hS : va_S A s.heap s.heap [] := va_S.rf
  have hP : va_P (dC, dI) cls [(gx, .inr (11, [.ref gq1, .ref gq4, .ref gq13, .ref gq136, .ref gq137, .ref gq138, .ref gq172, .ref gq184, .ref gq150, .ref gq161, .int (-1)])), (gq150, .inr (2, [.int 0, .ref gq151, .ref gq152, .ref gq153, .ref gq154, .ref gq155, .ref gq156, .int 0, .ref gq157, .ref gq158, .ref gq159, .int 0, .ref gq160]))] s.heap := hP
  have hl := lv_entry ([.ref gx, .int p0, .int p1, .int p2, .int p3, .ref go]) (n := 7) (Nat.le_of_ble_eq_true rfl)
  rw [lg_entry_eq]
  generalize (lg_sl ([.ref gx, .int p0, .int p1, .int p2, .int p3, .ref go]) ++ List.replicate (7 - (lg_sl ([.ref gx, .int p0, .int p1, .int p2, .int p3, .ref go])).length) Slot.unset).toArray = ls at hl ⊢
  have hl : lv_has ls 7 [(0, .ref gx), (1, .int p0), (2, .int p1), (3, .int p2), (4, .int p3), (5, .ref go)] := hl
  refine lv_aload hx hb dL_phiTakes_0 (lv_at hl 5 rfl) ?_
  refine lv_iconst (v := 0) hx hb dL_phiTakes_2 (by decide) ?_
  refine lv_aload_n hx hb dL_phiTakes_3 rfl (lv_at hl 0 rfl) ?_
  refine lv_iload_n hx hb dL_phiTakes_4 rfl (lv_at hl 1 rfl) ?_
  refine lv_iload_n hx hb dL_phiTakes_5 rfl (lv_at hl 2 rfl) ?_
  refine lv_iload_n hx hb dL_phiTakes_6 rfl (lv_at hl 3 rfl) ?_
  refine lv_iload hx hb dL_phiTakes_7 (lv_at hl 4 rfl) ?_
  have hPc := hP.sub (ws' := [(gx, .inr (11, [.ref gq1, .ref gq4, .ref gq13, .ref gq136, .ref gq137, .ref gq138, .ref gq172, .ref gq184, .ref gq150, .ref gq161, .int (-1)])), (gq150, .inr (2, [.int 0, .ref gq151, .ref gq152, .ref gq153, .ref gq154, .ref gq155, .ref gq156, .int 0, .ref gq157, .ref gq158, .ref gq159, .int 0, .ref gq160]))]) [0, 1] rfl
  have hDc := hD.sub (ws' := [(gx, .inr (11, [.ref gq1, .ref gq4, .ref gq13, .ref gq136, .ref gq137, .ref gq138, .ref gq172, .ref gq184, .ref gq150, .ref gq161, .int (-1)])), (gq150, .inr (2, [.int 0, .ref gq151, .ref gq152, .ref gq153, .ref gq154, .ref gq155, .ref gq156, .int 0, .ref gq157, .ref gq158, .ref gq159, .int 0, .ref gq160]))]) [0, 1] (by decide) rfl
  have hKc := hK.sub (tys' := []) [] rfl
  have hFc := va_free (wc := [(gx, .inr (11, [.ref gq1, .ref gq4, .ref gq13, .ref gq136, .ref gq137, .ref gq138, .ref gq172, .ref gq184, .ref gq150, .ref gq161, .int (-1)])), (gq150, .inr (2, [.int 0, .ref gq151, .ref gq152, .ref gq153, .ref gq154, .ref gq155, .ref gq156, .int 0, .ref gq157, .ref gq158, .ref gq159, .int 0, .ref gq160]))]) hD hS hA [0, 1] rfl
  refine vx_calli (vx_runV (As := [.int p0, .int p1, .int p2, .int p3]) (rest := [.int 0, .ref go]) ⟨hx, hb, hml, hown, hts⟩ (kX11_phiTakes l dC dI (gx := gx) (gq1 := gq1) (gq4 := gq4) (gq13 := gq13) (gq136 := gq136) (gq137 := gq137) (gq138 := gq138) (gq150 := gq150) (gq151 := gq151) (gq152 := gq152) (gq153 := gq153) (gq154 := gq154) (gq155 := gq155) (gq156 := gq156) (gq157 := gq157) (gq158 := gq158) (gq159 := gq159) (gq160 := gq160) (gq161 := gq161) (gq172 := gq172) (gq184 := gq184) (p0 := p0) (p1 := p1) (p2 := p2) (p3 := p3) (sz := _) (hl9 := hl9)) (cwV 4 hts (gi_V qw512 qw513 qw514 qw222 (gi_z qw511)) rfl rfl rfl (by decide +kernel) ⟨Nat.le_of_ble_eq_true rfl, Nat.le_of_ble_eq_true rfl⟩) ⟨PRE.blind, va_recv hKc hPc (ci := 11) (q0 := 0) rfl rfl, PRE.of hE hS hFc hPc hKc hDc⟩ rfl rfl hl.1 rfl (lv_room (Nat.le_of_ble_eq_true rfl)) dL_phiTakes_9 ⟨Nat.le_of_ble_eq_true rfl, Nat.le_of_ble_eq_true rfl⟩) hS (fun q _ h => hFc q h) hFc (fun q _ h => hFc q h) (fun E ce q9 u t H locs ht hvm hw hB hz1 hk1 hS hce hcv hcl => ?_) (fun _ u t H locs ht hvm hw hB hz1 hk1 hS => hw.elim)
  obtain ⟨rfl, hB⟩ := hB
  obtain ⟨hP, hD, hK⟩ := JOIN (wr := []) hP hD hK [0, 1] [] [] rfl rfl (by decide) (by decide) rfl hk1 hFc ht hvm hB
  have hP : va_P (dC, dI) cls [] H := hP
  have hD : va_D A [] := hD
  have hK : va_K (dC, dI) cls [] s := hK
  refine vx_widen (k := 1) (n := 6) (Nat.le_of_ble_eq_true rfl) (Nat.le_of_ble_eq_true rfl) ?_
  refine vx_catch (own := RL) (name := "java/lang/IndexOutOfBoundsException") hown [] ⟨0, 14, 17, 24⟩ [] (htab.trans rfl) (fun z hz => by cases hz) (by decide) (by decide) (hts _ qw462) (hE.word (List.mem_append_right _ (tbl_9 (i := 38) rfl)) rfl) hce hcv hcl ?_
  refine lv_astore (lv' := [(6, .ref q9), (0, .ref gx), (1, .int p0), (2, .int p1), (3, .int p2), (4, .int p3), (5, .ref go)]) hx hb dL_phiTakes_17 hl (by decide) rfl (fun ls hl => ?_)
  refine lv_iconst (v := 1) hx hb dL_phiTakes_19 (by decide) ?_
  have hP9 : va_P (dC, dI) cls [] H := hP.sub [] rfl
  have hD9 : va_D A [] := hD.sub [] (by decide) rfl
  have hK9 : va_K (dC, dI) cls [] s := hK.sub [] rfl
  exact W.iret (v := 1) hx hb hr (fun t ht hW => ⟨⟨1, (), rfl, rfl, ⟨by rw [ht]; exact hP9, va_K.moved hW.alike hK9, hD9⟩⟩, hS.F ht⟩) hS.2.2 dL_phiTakes_20
set_option maxHeartbeats 4000000 in
set_option maxRecDepth 100000 in
theorem kL_steps {zs : Nat × Nat} (l : Launch) (dC : Nat → ClassId) (dI : Nat → Nat → Nat) (gx : Nat) (gq1 : Nat) (gq4 : Nat) (gq13 : Nat) (gq136 : Nat) (gq137 : Nat) (gq138 : Nat) (gq150 : Nat) (gq151 : Nat) (gq152 : Nat) (gq153 : Nat) (gq154 : Nat) (gq155 : Nat) (gq156 : Nat) (gq157 : Nat) (gq158 : Nat) (gq159 : Nat) (gq160 : Nat) (gq161 : Nat) (gq172 : Nat) (gq184 : Nat) (go : Nat) (p0 : Int32) (p1 : Int32) (sz : Nat) (hl9 : l.stackTraces = false)  : Met l yL_steps (wh yL_steps cL_steps 5 (Option.some Jvm.ClassFile.FieldType.int) [(0, 10, 13, 24)]) ({ frames := 9, cells := 1, slots := 6, locals := 165 }) (va_Pc [.ref gx, .int p0, .int p1, .ref go] (PRE zs dC dI [(gx, .inr (11, [.ref gq1, .ref gq4, .ref gq13, .ref gq136, .ref gq137, .ref gq138, .ref gq172, .ref gq184, .ref gq150, .ref gq161, .int (-1)])), (gq150, .inr (2, [.int 0, .ref gq151, .ref gq152, .ref gq153, .ref gq154, .ref gq155, .ref gq156, .int 0, .ref gq157, .ref gq158, .ref gq159, .int 0, .ref gq160]))] [] sz)) (va_Qi (fun (r : Int32) (_ : Unit) => r = 1) (fun _ t => POST dC dI [] [] (va_A [(gx, .inr (11, [.ref gq1, .ref gq4, .ref gq13, .ref gq136, .ref gq137, .ref gq138, .ref gq172, .ref gq184, .ref gq150, .ref gq161, .int (-1)])), (gq150, .inr (2, [.int 0, .ref gq151, .ref gq152, .ref gq153, .ref gq154, .ref gq155, .ref gq156, .int 0, .ref gq157, .ref gq158, .ref gq159, .int 0, .ref gq160]))] sz) t) (va_A [(gx, .inr (11, [.ref gq1, .ref gq4, .ref gq13, .ref gq136, .ref gq137, .ref gq138, .ref gq172, .ref gq184, .ref gq150, .ref gq161, .int (-1)])), (gq150, .inr (2, [.int 0, .ref gq151, .ref gq152, .ref gq153, .ref gq154, .ref gq155, .ref gq156, .int 0, .ref gq157, .ref gq158, .ref gq159, .int 0, .ref gq160]))] sz)) 1 6 (va_A [(gx, .inr (11, [.ref gq1, .ref gq4, .ref gq13, .ref gq136, .ref gq137, .ref gq138, .ref gq172, .ref gq184, .ref gq150, .ref gq161, .int (-1)])), (gq150, .inr (2, [.int 0, .ref gq151, .ref gq152, .ref gq153, .ref gq154, .ref gq155, .ref gq156, .int 0, .ref gq157, .ref gq158, .ref gq159, .int 0, .ref gq160]))] sz) := by
  refine va_MetW (cc := cL_steps) (maxL := 5) (ret := (Option.some Jvm.ClassFile.FieldType.int)) (hh := [(0, 10, 13, 24)]) (by decide) rfl ?_
  intro p e s m args below meth c s₁ B hml hv
  obtain ⟨rfl, hsz, hP, hK, hD0, hE⟩ := hv
  have hx := B.exec
  have hb := B.bytes
  have hr := B.returns
  have hts0 := atoms_spec (ws := wh yL_steps cL_steps 5 (Option.some Jvm.ClassFile.FieldType.int) [(0, 10, 13, 24)]) B.pre
  have htab := vx_table B (hts0 _ List.mem_cons_self)
  have hts : ∀ w ∈ gw, w.before _ s = true := fun w h => hts0 w (List.mem_cons_of_mem _ h)
  have hown : s.vm.findClass RL = some m.cls := findClass_of_methodNamed B.named
  have hlocks := B.notSynchronized
  subst hsz
  have hD := hD0.self (sz := s.heap.size)
  generalize hAe : va_A [(gx, .inr (11, [.ref gq1, .ref gq4, .ref gq13, .ref gq136, .ref gq137, .ref gq138, .ref gq172, .ref gq184, .ref gq150, .ref gq161, .int (-1)])), (gq150, .inr (2, [.int 0, .ref gq151, .ref gq152, .ref gq153, .ref gq154, .ref gq155, .ref gq156, .int 0, .ref gq157, .ref gq158, .ref gq159, .int 0, .ref gq160]))] s.heap.size = A at hD hE ⊢
  have hA : ∀ q : Nat, s.heap.size ≤ q → A q := fun q h => by rw [← hAe]; exact Or.inr h
  have hS : va_S A s.heap s.heap [] := va_S.rf
  have hP : va_P (dC, dI) cls [(gx, .inr (11, [.ref gq1, .ref gq4, .ref gq13, .ref gq136, .ref gq137, .ref gq138, .ref gq172, .ref gq184, .ref gq150, .ref gq161, .int (-1)])), (gq150, .inr (2, [.int 0, .ref gq151, .ref gq152, .ref gq153, .ref gq154, .ref gq155, .ref gq156, .int 0, .ref gq157, .ref gq158, .ref gq159, .int 0, .ref gq160]))] s.heap := hP
  have hl := lv_entry ([.ref gx, .int p0, .int p1, .ref go]) (n := 5) (Nat.le_of_ble_eq_true rfl)
  rw [lg_entry_eq]
  generalize (lg_sl ([.ref gx, .int p0, .int p1, .ref go]) ++ List.replicate (5 - (lg_sl ([.ref gx, .int p0, .int p1, .ref go])).length) Slot.unset).toArray = ls at hl ⊢
  have hl : lv_has ls 5 [(0, .ref gx), (1, .int p0), (2, .int p1), (3, .ref go)] := hl
  refine lv_aload_n hx hb dL_steps_0 rfl (lv_at hl 3 rfl) ?_
  refine lv_iconst (v := 0) hx hb dL_steps_1 (by decide) ?_
  refine lv_aload_n hx hb dL_steps_2 rfl (lv_at hl 0 rfl) ?_
  refine lv_iload_n hx hb dL_steps_3 rfl (lv_at hl 1 rfl) ?_
  refine lv_iload_n hx hb dL_steps_4 rfl (lv_at hl 2 rfl) ?_
  have hPc := hP.sub (ws' := [(gx, .inr (11, [.ref gq1, .ref gq4, .ref gq13, .ref gq136, .ref gq137, .ref gq138, .ref gq172, .ref gq184, .ref gq150, .ref gq161, .int (-1)])), (gq150, .inr (2, [.int 0, .ref gq151, .ref gq152, .ref gq153, .ref gq154, .ref gq155, .ref gq156, .int 0, .ref gq157, .ref gq158, .ref gq159, .int 0, .ref gq160]))]) [0, 1] rfl
  have hDc := hD.sub (ws' := [(gx, .inr (11, [.ref gq1, .ref gq4, .ref gq13, .ref gq136, .ref gq137, .ref gq138, .ref gq172, .ref gq184, .ref gq150, .ref gq161, .int (-1)])), (gq150, .inr (2, [.int 0, .ref gq151, .ref gq152, .ref gq153, .ref gq154, .ref gq155, .ref gq156, .int 0, .ref gq157, .ref gq158, .ref gq159, .int 0, .ref gq160]))]) [0, 1] (by decide) rfl
  have hKc := hK.sub (tys' := []) [] rfl
  have hFc := va_free (wc := [(gx, .inr (11, [.ref gq1, .ref gq4, .ref gq13, .ref gq136, .ref gq137, .ref gq138, .ref gq172, .ref gq184, .ref gq150, .ref gq161, .int (-1)])), (gq150, .inr (2, [.int 0, .ref gq151, .ref gq152, .ref gq153, .ref gq154, .ref gq155, .ref gq156, .int 0, .ref gq157, .ref gq158, .ref gq159, .int 0, .ref gq160]))]) hD hS hA [0, 1] rfl
  refine vx_calli (vx_runV (As := [.int p0, .int p1]) (rest := [.int 0, .ref go]) ⟨hx, hb, hml, hown, hts⟩ (kX11_steps l dC dI (gx := gx) (gq1 := gq1) (gq4 := gq4) (gq13 := gq13) (gq136 := gq136) (gq137 := gq137) (gq138 := gq138) (gq150 := gq150) (gq151 := gq151) (gq152 := gq152) (gq153 := gq153) (gq154 := gq154) (gq155 := gq155) (gq156 := gq156) (gq157 := gq157) (gq158 := gq158) (gq159 := gq159) (gq160 := gq160) (gq161 := gq161) (gq172 := gq172) (gq184 := gq184) (p0 := p0) (p1 := p1) (sz := _) (hl9 := hl9)) (cwV 2 hts (gi_V qw516 qw517 qw518 qw222 (gi_z qw515)) rfl rfl rfl (by decide +kernel) ⟨Nat.le_of_ble_eq_true rfl, Nat.le_of_ble_eq_true rfl⟩) ⟨PRE.blind, va_recv hKc hPc (ci := 11) (q0 := 0) rfl rfl, PRE.of hE hS hFc hPc hKc hDc⟩ rfl rfl hl.1 rfl (lv_room (Nat.le_of_ble_eq_true rfl)) dL_steps_5 ⟨Nat.le_of_ble_eq_true rfl, Nat.le_of_ble_eq_true rfl⟩) hS (fun q _ h => hFc q h) hFc (fun q _ h => hFc q h) (fun E ce q9 u t H locs ht hvm hw hB hz1 hk1 hS hce hcv hcl => ?_) (fun _ u t H locs ht hvm hw hB hz1 hk1 hS => hw.elim)
  obtain ⟨rfl, hB⟩ := hB
  obtain ⟨hP, hD, hK⟩ := JOIN (wr := []) hP hD hK [0, 1] [] [] rfl rfl (by decide) (by decide) rfl hk1 hFc ht hvm hB
  have hP : va_P (dC, dI) cls [] H := hP
  have hD : va_D A [] := hD
  have hK : va_K (dC, dI) cls [] s := hK
  refine vx_widen (k := 1) (n := 6) (Nat.le_of_ble_eq_true rfl) (Nat.le_of_ble_eq_true rfl) ?_
  refine vx_catch (own := RL) (name := "java/lang/IndexOutOfBoundsException") hown [] ⟨0, 10, 13, 24⟩ [] (htab.trans rfl) (fun z hz => by cases hz) (by decide) (by decide) (hts _ qw462) (hE.word (List.mem_append_right _ (tbl_9 (i := 38) rfl)) rfl) hce hcv hcl ?_
  refine lv_astore (lv' := [(4, .ref q9), (0, .ref gx), (1, .int p0), (2, .int p1), (3, .ref go)]) hx hb dL_steps_13 hl (by decide) rfl (fun ls hl => ?_)
  refine lv_iconst (v := 1) hx hb dL_steps_15 (by decide) ?_
  have hP9 : va_P (dC, dI) cls [] H := hP.sub [] rfl
  have hD9 : va_D A [] := hD.sub [] (by decide) rfl
  have hK9 : va_K (dC, dI) cls [] s := hK.sub [] rfl
  exact W.iret (v := 1) hx hb hr (fun t ht hW => ⟨⟨1, (), rfl, rfl, ⟨by rw [ht]; exact hP9, va_K.moved hW.alike hK9, hD9⟩⟩, hS.F ht⟩) hS.2.2 dL_steps_16
set_option maxHeartbeats 4000000 in
set_option maxRecDepth 100000 in
theorem kL_kindOf {zs : Nat × Nat} (l : Launch) (dC : Nat → ClassId) (dI : Nat → Nat → Nat) (gx : Nat) (gq1 : Nat) (gq4 : Nat) (gq13 : Nat) (gq136 : Nat) (gq137 : Nat) (gq138 : Nat) (gq150 : Nat) (gq151 : Nat) (gq152 : Nat) (gq153 : Nat) (gq154 : Nat) (gq155 : Nat) (gq156 : Nat) (gq157 : Nat) (gq158 : Nat) (gq159 : Nat) (gq160 : Nat) (gq161 : Nat) (gq172 : Nat) (gq184 : Nat) (go : Nat) (p0 : Int32) (p1 : Int32) (p2 : Int32) (sz : Nat) (hl9 : l.stackTraces = false)  : Met l yL_kindOf (wh yL_kindOf cL_kindOf 6 (Option.some Jvm.ClassFile.FieldType.int) [(0, 12, 15, 24)]) ({ frames := 10, cells := 1, slots := 6, locals := 191 }) (va_Pc [.ref gx, .int p0, .int p1, .int p2, .ref go] (PRE zs dC dI [(gx, .inr (11, [.ref gq1, .ref gq4, .ref gq13, .ref gq136, .ref gq137, .ref gq138, .ref gq172, .ref gq184, .ref gq150, .ref gq161, .int (-1)])), (gq150, .inr (2, [.int 0, .ref gq151, .ref gq152, .ref gq153, .ref gq154, .ref gq155, .ref gq156, .int 0, .ref gq157, .ref gq158, .ref gq159, .int 0, .ref gq160]))] [] sz)) (va_Qi (fun (r : Int32) (_ : Unit) => r = 1) (fun _ t => POST dC dI [] [] (va_A [(gx, .inr (11, [.ref gq1, .ref gq4, .ref gq13, .ref gq136, .ref gq137, .ref gq138, .ref gq172, .ref gq184, .ref gq150, .ref gq161, .int (-1)])), (gq150, .inr (2, [.int 0, .ref gq151, .ref gq152, .ref gq153, .ref gq154, .ref gq155, .ref gq156, .int 0, .ref gq157, .ref gq158, .ref gq159, .int 0, .ref gq160]))] sz) t) (va_A [(gx, .inr (11, [.ref gq1, .ref gq4, .ref gq13, .ref gq136, .ref gq137, .ref gq138, .ref gq172, .ref gq184, .ref gq150, .ref gq161, .int (-1)])), (gq150, .inr (2, [.int 0, .ref gq151, .ref gq152, .ref gq153, .ref gq154, .ref gq155, .ref gq156, .int 0, .ref gq157, .ref gq158, .ref gq159, .int 0, .ref gq160]))] sz)) 1 6 (va_A [(gx, .inr (11, [.ref gq1, .ref gq4, .ref gq13, .ref gq136, .ref gq137, .ref gq138, .ref gq172, .ref gq184, .ref gq150, .ref gq161, .int (-1)])), (gq150, .inr (2, [.int 0, .ref gq151, .ref gq152, .ref gq153, .ref gq154, .ref gq155, .ref gq156, .int 0, .ref gq157, .ref gq158, .ref gq159, .int 0, .ref gq160]))] sz) := by
  refine va_MetW (cc := cL_kindOf) (maxL := 6) (ret := (Option.some Jvm.ClassFile.FieldType.int)) (hh := [(0, 12, 15, 24)]) (by decide) rfl ?_
  intro p e s m args below meth c s₁ B hml hv
  obtain ⟨rfl, hsz, hP, hK, hD0, hE⟩ := hv
  have hx := B.exec
  have hb := B.bytes
  have hr := B.returns
  have hts0 := atoms_spec (ws := wh yL_kindOf cL_kindOf 6 (Option.some Jvm.ClassFile.FieldType.int) [(0, 12, 15, 24)]) B.pre
  have htab := vx_table B (hts0 _ List.mem_cons_self)
  have hts : ∀ w ∈ gw, w.before _ s = true := fun w h => hts0 w (List.mem_cons_of_mem _ h)
  have hown : s.vm.findClass RL = some m.cls := findClass_of_methodNamed B.named
  have hlocks := B.notSynchronized
  subst hsz
  have hD := hD0.self (sz := s.heap.size)
  generalize hAe : va_A [(gx, .inr (11, [.ref gq1, .ref gq4, .ref gq13, .ref gq136, .ref gq137, .ref gq138, .ref gq172, .ref gq184, .ref gq150, .ref gq161, .int (-1)])), (gq150, .inr (2, [.int 0, .ref gq151, .ref gq152, .ref gq153, .ref gq154, .ref gq155, .ref gq156, .int 0, .ref gq157, .ref gq158, .ref gq159, .int 0, .ref gq160]))] s.heap.size = A at hD hE ⊢
  have hA : ∀ q : Nat, s.heap.size ≤ q → A q := fun q h => by rw [← hAe]; exact Or.inr h
  have hS : va_S A s.heap s.heap [] := va_S.rf
  have hP : va_P (dC, dI) cls [(gx, .inr (11, [.ref gq1, .ref gq4, .ref gq13, .ref gq136, .ref gq137, .ref gq138, .ref gq172, .ref gq184, .ref gq150, .ref gq161, .int (-1)])), (gq150, .inr (2, [.int 0, .ref gq151, .ref gq152, .ref gq153, .ref gq154, .ref gq155, .ref gq156, .int 0, .ref gq157, .ref gq158, .ref gq159, .int 0, .ref gq160]))] s.heap := hP
  have hl := lv_entry ([.ref gx, .int p0, .int p1, .int p2, .ref go]) (n := 6) (Nat.le_of_ble_eq_true rfl)
  rw [lg_entry_eq]
  generalize (lg_sl ([.ref gx, .int p0, .int p1, .int p2, .ref go]) ++ List.replicate (6 - (lg_sl ([.ref gx, .int p0, .int p1, .int p2, .ref go])).length) Slot.unset).toArray = ls at hl ⊢
  have hl : lv_has ls 6 [(0, .ref gx), (1, .int p0), (2, .int p1), (3, .int p2), (4, .ref go)] := hl
  refine lv_aload hx hb dL_kindOf_0 (lv_at hl 4 rfl) ?_
  refine lv_iconst (v := 0) hx hb dL_kindOf_2 (by decide) ?_
  refine lv_aload_n hx hb dL_kindOf_3 rfl (lv_at hl 0 rfl) ?_
  refine lv_iload_n hx hb dL_kindOf_4 rfl (lv_at hl 1 rfl) ?_
  refine lv_iload_n hx hb dL_kindOf_5 rfl (lv_at hl 2 rfl) ?_
  refine lv_iload_n hx hb dL_kindOf_6 rfl (lv_at hl 3 rfl) ?_
  have hPc := hP.sub (ws' := [(gx, .inr (11, [.ref gq1, .ref gq4, .ref gq13, .ref gq136, .ref gq137, .ref gq138, .ref gq172, .ref gq184, .ref gq150, .ref gq161, .int (-1)])), (gq150, .inr (2, [.int 0, .ref gq151, .ref gq152, .ref gq153, .ref gq154, .ref gq155, .ref gq156, .int 0, .ref gq157, .ref gq158, .ref gq159, .int 0, .ref gq160]))]) [0, 1] rfl
  have hDc := hD.sub (ws' := [(gx, .inr (11, [.ref gq1, .ref gq4, .ref gq13, .ref gq136, .ref gq137, .ref gq138, .ref gq172, .ref gq184, .ref gq150, .ref gq161, .int (-1)])), (gq150, .inr (2, [.int 0, .ref gq151, .ref gq152, .ref gq153, .ref gq154, .ref gq155, .ref gq156, .int 0, .ref gq157, .ref gq158, .ref gq159, .int 0, .ref gq160]))]) [0, 1] (by decide) rfl
  have hKc := hK.sub (tys' := []) [] rfl
  have hFc := va_free (wc := [(gx, .inr (11, [.ref gq1, .ref gq4, .ref gq13, .ref gq136, .ref gq137, .ref gq138, .ref gq172, .ref gq184, .ref gq150, .ref gq161, .int (-1)])), (gq150, .inr (2, [.int 0, .ref gq151, .ref gq152, .ref gq153, .ref gq154, .ref gq155, .ref gq156, .int 0, .ref gq157, .ref gq158, .ref gq159, .int 0, .ref gq160]))]) hD hS hA [0, 1] rfl
  refine vx_calli (vx_runV (As := [.int p0, .int p1, .int p2]) (rest := [.int 0, .ref go]) ⟨hx, hb, hml, hown, hts⟩ (kX11_kindOf l dC dI (gx := gx) (gq1 := gq1) (gq4 := gq4) (gq13 := gq13) (gq136 := gq136) (gq137 := gq137) (gq138 := gq138) (gq150 := gq150) (gq151 := gq151) (gq152 := gq152) (gq153 := gq153) (gq154 := gq154) (gq155 := gq155) (gq156 := gq156) (gq157 := gq157) (gq158 := gq158) (gq159 := gq159) (gq160 := gq160) (gq161 := gq161) (gq172 := gq172) (gq184 := gq184) (p0 := p0) (p1 := p1) (p2 := p2) (sz := _) (hl9 := hl9)) (cwV 3 hts (gi_V qw520 qw521 qw522 qw222 (gi_z qw519)) rfl rfl rfl (by decide +kernel) ⟨Nat.le_of_ble_eq_true rfl, Nat.le_of_ble_eq_true rfl⟩) ⟨PRE.blind, va_recv hKc hPc (ci := 11) (q0 := 0) rfl rfl, PRE.of hE hS hFc hPc hKc hDc⟩ rfl rfl hl.1 rfl (lv_room (Nat.le_of_ble_eq_true rfl)) dL_kindOf_7 ⟨Nat.le_of_ble_eq_true rfl, Nat.le_of_ble_eq_true rfl⟩) hS (fun q _ h => hFc q h) hFc (fun q _ h => hFc q h) (fun E ce q9 u t H locs ht hvm hw hB hz1 hk1 hS hce hcv hcl => ?_) (fun _ u t H locs ht hvm hw hB hz1 hk1 hS => hw.elim)
  obtain ⟨rfl, hB⟩ := hB
  obtain ⟨hP, hD, hK⟩ := JOIN (wr := []) hP hD hK [0, 1] [] [] rfl rfl (by decide) (by decide) rfl hk1 hFc ht hvm hB
  have hP : va_P (dC, dI) cls [] H := hP
  have hD : va_D A [] := hD
  have hK : va_K (dC, dI) cls [] s := hK
  refine vx_widen (k := 1) (n := 6) (Nat.le_of_ble_eq_true rfl) (Nat.le_of_ble_eq_true rfl) ?_
  refine vx_catch (own := RL) (name := "java/lang/IndexOutOfBoundsException") hown [] ⟨0, 12, 15, 24⟩ [] (htab.trans rfl) (fun z hz => by cases hz) (by decide) (by decide) (hts _ qw462) (hE.word (List.mem_append_right _ (tbl_9 (i := 38) rfl)) rfl) hce hcv hcl ?_
  refine lv_astore (lv' := [(5, .ref q9), (0, .ref gx), (1, .int p0), (2, .int p1), (3, .int p2), (4, .ref go)]) hx hb dL_kindOf_15 hl (by decide) rfl (fun ls hl => ?_)
  refine lv_iconst (v := 1) hx hb dL_kindOf_17 (by decide) ?_
  have hP9 : va_P (dC, dI) cls [] H := hP.sub [] rfl
  have hD9 : va_D A [] := hD.sub [] (by decide) rfl
  have hK9 : va_K (dC, dI) cls [] s := hK.sub [] rfl
  exact W.iret (v := 1) hx hb hr (fun t ht hW => ⟨⟨1, (), rfl, rfl, ⟨by rw [ht]; exact hP9, va_K.moved hW.alike hK9, hD9⟩⟩, hS.F ht⟩) hS.2.2 dL_kindOf_18
set_option maxHeartbeats 4000000 in
set_option maxRecDepth 100000 in
theorem kL_gives {zs : Nat × Nat} (l : Launch) (dC : Nat → ClassId) (dI : Nat → Nat → Nat) (gx : Nat) (gq1 : Nat) (gq4 : Nat) (gq13 : Nat) (gq136 : Nat) (gq137 : Nat) (gq138 : Nat) (gq150 : Nat) (gq151 : Nat) (gq152 : Nat) (gq153 : Nat) (gq154 : Nat) (gq155 : Nat) (gq156 : Nat) (gq157 : Nat) (gq158 : Nat) (gq159 : Nat) (gq160 : Nat) (gq161 : Nat) (gq172 : Nat) (gq184 : Nat) (go : Nat) (p0 : Int32) (p1 : Int32) (p2 : Int32) (sz : Nat) (hl9 : l.stackTraces = false)  : Met l yL_gives (wh yL_gives cL_gives 6 (Option.some Jvm.ClassFile.FieldType.int) [(0, 12, 15, 24)]) ({ frames := 10, cells := 1, slots := 6, locals := 191 }) (va_Pc [.ref gx, .int p0, .int p1, .int p2, .ref go] (PRE zs dC dI [(gx, .inr (11, [.ref gq1, .ref gq4, .ref gq13, .ref gq136, .ref gq137, .ref gq138, .ref gq172, .ref gq184, .ref gq150, .ref gq161, .int (-1)])), (gq150, .inr (2, [.int 0, .ref gq151, .ref gq152, .ref gq153, .ref gq154, .ref gq155, .ref gq156, .int 0, .ref gq157, .ref gq158, .ref gq159, .int 0, .ref gq160]))] [] sz)) (va_Qi (fun (r : Int32) (_ : Unit) => r = 1) (fun _ t => POST dC dI [] [] (va_A [(gx, .inr (11, [.ref gq1, .ref gq4, .ref gq13, .ref gq136, .ref gq137, .ref gq138, .ref gq172, .ref gq184, .ref gq150, .ref gq161, .int (-1)])), (gq150, .inr (2, [.int 0, .ref gq151, .ref gq152, .ref gq153, .ref gq154, .ref gq155, .ref gq156, .int 0, .ref gq157, .ref gq158, .ref gq159, .int 0, .ref gq160]))] sz) t) (va_A [(gx, .inr (11, [.ref gq1, .ref gq4, .ref gq13, .ref gq136, .ref gq137, .ref gq138, .ref gq172, .ref gq184, .ref gq150, .ref gq161, .int (-1)])), (gq150, .inr (2, [.int 0, .ref gq151, .ref gq152, .ref gq153, .ref gq154, .ref gq155, .ref gq156, .int 0, .ref gq157, .ref gq158, .ref gq159, .int 0, .ref gq160]))] sz)) 1 6 (va_A [(gx, .inr (11, [.ref gq1, .ref gq4, .ref gq13, .ref gq136, .ref gq137, .ref gq138, .ref gq172, .ref gq184, .ref gq150, .ref gq161, .int (-1)])), (gq150, .inr (2, [.int 0, .ref gq151, .ref gq152, .ref gq153, .ref gq154, .ref gq155, .ref gq156, .int 0, .ref gq157, .ref gq158, .ref gq159, .int 0, .ref gq160]))] sz) := by
  refine va_MetW (cc := cL_gives) (maxL := 6) (ret := (Option.some Jvm.ClassFile.FieldType.int)) (hh := [(0, 12, 15, 24)]) (by decide) rfl ?_
  intro p e s m args below meth c s₁ B hml hv
  obtain ⟨rfl, hsz, hP, hK, hD0, hE⟩ := hv
  have hx := B.exec
  have hb := B.bytes
  have hr := B.returns
  have hts0 := atoms_spec (ws := wh yL_gives cL_gives 6 (Option.some Jvm.ClassFile.FieldType.int) [(0, 12, 15, 24)]) B.pre
  have htab := vx_table B (hts0 _ List.mem_cons_self)
  have hts : ∀ w ∈ gw, w.before _ s = true := fun w h => hts0 w (List.mem_cons_of_mem _ h)
  have hown : s.vm.findClass RL = some m.cls := findClass_of_methodNamed B.named
  have hlocks := B.notSynchronized
  subst hsz
  have hD := hD0.self (sz := s.heap.size)
  generalize hAe : va_A [(gx, .inr (11, [.ref gq1, .ref gq4, .ref gq13, .ref gq136, .ref gq137, .ref gq138, .ref gq172, .ref gq184, .ref gq150, .ref gq161, .int (-1)])), (gq150, .inr (2, [.int 0, .ref gq151, .ref gq152, .ref gq153, .ref gq154, .ref gq155, .ref gq156, .int 0, .ref gq157, .ref gq158, .ref gq159, .int 0, .ref gq160]))] s.heap.size = A at hD hE ⊢
  have hA : ∀ q : Nat, s.heap.size ≤ q → A q := fun q h => by rw [← hAe]; exact Or.inr h
  have hS : va_S A s.heap s.heap [] := va_S.rf
  have hP : va_P (dC, dI) cls [(gx, .inr (11, [.ref gq1, .ref gq4, .ref gq13, .ref gq136, .ref gq137, .ref gq138, .ref gq172, .ref gq184, .ref gq150, .ref gq161, .int (-1)])), (gq150, .inr (2, [.int 0, .ref gq151, .ref gq152, .ref gq153, .ref gq154, .ref gq155, .ref gq156, .int 0, .ref gq157, .ref gq158, .ref gq159, .int 0, .ref gq160]))] s.heap := hP
  have hl := lv_entry ([.ref gx, .int p0, .int p1, .int p2, .ref go]) (n := 6) (Nat.le_of_ble_eq_true rfl)
  rw [lg_entry_eq]
  generalize (lg_sl ([.ref gx, .int p0, .int p1, .int p2, .ref go]) ++ List.replicate (6 - (lg_sl ([.ref gx, .int p0, .int p1, .int p2, .ref go])).length) Slot.unset).toArray = ls at hl ⊢
  have hl : lv_has ls 6 [(0, .ref gx), (1, .int p0), (2, .int p1), (3, .int p2), (4, .ref go)] := hl
  refine lv_aload hx hb dL_gives_0 (lv_at hl 4 rfl) ?_
  refine lv_iconst (v := 0) hx hb dL_gives_2 (by decide) ?_
  refine lv_aload_n hx hb dL_gives_3 rfl (lv_at hl 0 rfl) ?_
  refine lv_iload_n hx hb dL_gives_4 rfl (lv_at hl 1 rfl) ?_
  refine lv_iload_n hx hb dL_gives_5 rfl (lv_at hl 2 rfl) ?_
  refine lv_iload_n hx hb dL_gives_6 rfl (lv_at hl 3 rfl) ?_
  have hPc := hP.sub (ws' := [(gx, .inr (11, [.ref gq1, .ref gq4, .ref gq13, .ref gq136, .ref gq137, .ref gq138, .ref gq172, .ref gq184, .ref gq150, .ref gq161, .int (-1)])), (gq150, .inr (2, [.int 0, .ref gq151, .ref gq152, .ref gq153, .ref gq154, .ref gq155, .ref gq156, .int 0, .ref gq157, .ref gq158, .ref gq159, .int 0, .ref gq160]))]) [0, 1] rfl
  have hDc := hD.sub (ws' := [(gx, .inr (11, [.ref gq1, .ref gq4, .ref gq13, .ref gq136, .ref gq137, .ref gq138, .ref gq172, .ref gq184, .ref gq150, .ref gq161, .int (-1)])), (gq150, .inr (2, [.int 0, .ref gq151, .ref gq152, .ref gq153, .ref gq154, .ref gq155, .ref gq156, .int 0, .ref gq157, .ref gq158, .ref gq159, .int 0, .ref gq160]))]) [0, 1] (by decide) rfl
  have hKc := hK.sub (tys' := []) [] rfl
  have hFc := va_free (wc := [(gx, .inr (11, [.ref gq1, .ref gq4, .ref gq13, .ref gq136, .ref gq137, .ref gq138, .ref gq172, .ref gq184, .ref gq150, .ref gq161, .int (-1)])), (gq150, .inr (2, [.int 0, .ref gq151, .ref gq152, .ref gq153, .ref gq154, .ref gq155, .ref gq156, .int 0, .ref gq157, .ref gq158, .ref gq159, .int 0, .ref gq160]))]) hD hS hA [0, 1] rfl
  refine vx_calli (vx_runV (As := [.int p0, .int p1, .int p2]) (rest := [.int 0, .ref go]) ⟨hx, hb, hml, hown, hts⟩ (kX11_gives l dC dI (gx := gx) (gq1 := gq1) (gq4 := gq4) (gq13 := gq13) (gq136 := gq136) (gq137 := gq137) (gq138 := gq138) (gq150 := gq150) (gq151 := gq151) (gq152 := gq152) (gq153 := gq153) (gq154 := gq154) (gq155 := gq155) (gq156 := gq156) (gq157 := gq157) (gq158 := gq158) (gq159 := gq159) (gq160 := gq160) (gq161 := gq161) (gq172 := gq172) (gq184 := gq184) (p0 := p0) (p1 := p1) (p2 := p2) (sz := _) (hl9 := hl9)) (cwV 3 hts (gi_V qw524 qw525 qw526 qw222 (gi_z qw523)) rfl rfl rfl (by decide +kernel) ⟨Nat.le_of_ble_eq_true rfl, Nat.le_of_ble_eq_true rfl⟩) ⟨PRE.blind, va_recv hKc hPc (ci := 11) (q0 := 0) rfl rfl, PRE.of hE hS hFc hPc hKc hDc⟩ rfl rfl hl.1 rfl (lv_room (Nat.le_of_ble_eq_true rfl)) dL_gives_7 ⟨Nat.le_of_ble_eq_true rfl, Nat.le_of_ble_eq_true rfl⟩) hS (fun q _ h => hFc q h) hFc (fun q _ h => hFc q h) (fun E ce q9 u t H locs ht hvm hw hB hz1 hk1 hS hce hcv hcl => ?_) (fun _ u t H locs ht hvm hw hB hz1 hk1 hS => hw.elim)
  obtain ⟨rfl, hB⟩ := hB
  obtain ⟨hP, hD, hK⟩ := JOIN (wr := []) hP hD hK [0, 1] [] [] rfl rfl (by decide) (by decide) rfl hk1 hFc ht hvm hB
  have hP : va_P (dC, dI) cls [] H := hP
  have hD : va_D A [] := hD
  have hK : va_K (dC, dI) cls [] s := hK
  refine vx_widen (k := 1) (n := 6) (Nat.le_of_ble_eq_true rfl) (Nat.le_of_ble_eq_true rfl) ?_
  refine vx_catch (own := RL) (name := "java/lang/IndexOutOfBoundsException") hown [] ⟨0, 12, 15, 24⟩ [] (htab.trans rfl) (fun z hz => by cases hz) (by decide) (by decide) (hts _ qw462) (hE.word (List.mem_append_right _ (tbl_9 (i := 38) rfl)) rfl) hce hcv hcl ?_
  refine lv_astore (lv' := [(5, .ref q9), (0, .ref gx), (1, .int p0), (2, .int p1), (3, .int p2), (4, .ref go)]) hx hb dL_gives_15 hl (by decide) rfl (fun ls hl => ?_)
  refine lv_iconst (v := 1) hx hb dL_gives_17 (by decide) ?_
  have hP9 : va_P (dC, dI) cls [] H := hP.sub [] rfl
  have hD9 : va_D A [] := hD.sub [] (by decide) rfl
  have hK9 : va_K (dC, dI) cls [] s := hK.sub [] rfl
  exact W.iret (v := 1) hx hb hr (fun t ht hW => ⟨⟨1, (), rfl, rfl, ⟨by rw [ht]; exact hP9, va_K.moved hW.alike hK9, hD9⟩⟩, hS.F ht⟩) hS.2.2 dL_gives_18
set_option maxHeartbeats 4000000 in
set_option maxRecDepth 100000 in
theorem kL_leftOf {zs : Nat × Nat} (l : Launch) (dC : Nat → ClassId) (dI : Nat → Nat → Nat) (gx : Nat) (gq1 : Nat) (gq4 : Nat) (gq13 : Nat) (gq136 : Nat) (gq137 : Nat) (gq138 : Nat) (gq150 : Nat) (gq151 : Nat) (gq152 : Nat) (gq153 : Nat) (gq154 : Nat) (gq155 : Nat) (gq156 : Nat) (gq157 : Nat) (gq158 : Nat) (gq159 : Nat) (gq160 : Nat) (gq161 : Nat) (gq172 : Nat) (gq184 : Nat) (go : Nat) (p0 : Int32) (p1 : Int32) (p2 : Int32) (sz : Nat) (hl9 : l.stackTraces = false)  : Met l yL_leftOf (wh yL_leftOf cL_leftOf 6 (Option.some Jvm.ClassFile.FieldType.int) [(0, 12, 15, 24)]) ({ frames := 10, cells := 1, slots := 6, locals := 191 }) (va_Pc [.ref gx, .int p0, .int p1, .int p2, .ref go] (PRE zs dC dI [(gx, .inr (11, [.ref gq1, .ref gq4, .ref gq13, .ref gq136, .ref gq137, .ref gq138, .ref gq172, .ref gq184, .ref gq150, .ref gq161, .int (-1)])), (gq150, .inr (2, [.int 0, .ref gq151, .ref gq152, .ref gq153, .ref gq154, .ref gq155, .ref gq156, .int 0, .ref gq157, .ref gq158, .ref gq159, .int 0, .ref gq160]))] [] sz)) (va_Qi (fun (r : Int32) (_ : Unit) => r = 1) (fun _ t => POST dC dI [] [] (va_A [(gx, .inr (11, [.ref gq1, .ref gq4, .ref gq13, .ref gq136, .ref gq137, .ref gq138, .ref gq172, .ref gq184, .ref gq150, .ref gq161, .int (-1)])), (gq150, .inr (2, [.int 0, .ref gq151, .ref gq152, .ref gq153, .ref gq154, .ref gq155, .ref gq156, .int 0, .ref gq157, .ref gq158, .ref gq159, .int 0, .ref gq160]))] sz) t) (va_A [(gx, .inr (11, [.ref gq1, .ref gq4, .ref gq13, .ref gq136, .ref gq137, .ref gq138, .ref gq172, .ref gq184, .ref gq150, .ref gq161, .int (-1)])), (gq150, .inr (2, [.int 0, .ref gq151, .ref gq152, .ref gq153, .ref gq154, .ref gq155, .ref gq156, .int 0, .ref gq157, .ref gq158, .ref gq159, .int 0, .ref gq160]))] sz)) 1 6 (va_A [(gx, .inr (11, [.ref gq1, .ref gq4, .ref gq13, .ref gq136, .ref gq137, .ref gq138, .ref gq172, .ref gq184, .ref gq150, .ref gq161, .int (-1)])), (gq150, .inr (2, [.int 0, .ref gq151, .ref gq152, .ref gq153, .ref gq154, .ref gq155, .ref gq156, .int 0, .ref gq157, .ref gq158, .ref gq159, .int 0, .ref gq160]))] sz) := by
  refine va_MetW (cc := cL_leftOf) (maxL := 6) (ret := (Option.some Jvm.ClassFile.FieldType.int)) (hh := [(0, 12, 15, 24)]) (by decide) rfl ?_
  intro p e s m args below meth c s₁ B hml hv
  obtain ⟨rfl, hsz, hP, hK, hD0, hE⟩ := hv
  have hx := B.exec
  have hb := B.bytes
  have hr := B.returns
  have hts0 := atoms_spec (ws := wh yL_leftOf cL_leftOf 6 (Option.some Jvm.ClassFile.FieldType.int) [(0, 12, 15, 24)]) B.pre
  have htab := vx_table B (hts0 _ List.mem_cons_self)
  have hts : ∀ w ∈ gw, w.before _ s = true := fun w h => hts0 w (List.mem_cons_of_mem _ h)
  have hown : s.vm.findClass RL = some m.cls := findClass_of_methodNamed B.named
  have hlocks := B.notSynchronized
  subst hsz
  have hD := hD0.self (sz := s.heap.size)
  generalize hAe : va_A [(gx, .inr (11, [.ref gq1, .ref gq4, .ref gq13, .ref gq136, .ref gq137, .ref gq138, .ref gq172, .ref gq184, .ref gq150, .ref gq161, .int (-1)])), (gq150, .inr (2, [.int 0, .ref gq151, .ref gq152, .ref gq153, .ref gq154, .ref gq155, .ref gq156, .int 0, .ref gq157, .ref gq158, .ref gq159, .int 0, .ref gq160]))] s.heap.size = A at hD hE ⊢
  have hA : ∀ q : Nat, s.heap.size ≤ q → A q := fun q h => by rw [← hAe]; exact Or.inr h
  have hS : va_S A s.heap s.heap [] := va_S.rf
  have hP : va_P (dC, dI) cls [(gx, .inr (11, [.ref gq1, .ref gq4, .ref gq13, .ref gq136, .ref gq137, .ref gq138, .ref gq172, .ref gq184, .ref gq150, .ref gq161, .int (-1)])), (gq150, .inr (2, [.int 0, .ref gq151, .ref gq152, .ref gq153, .ref gq154, .ref gq155, .ref gq156, .int 0, .ref gq157, .ref gq158, .ref gq159, .int 0, .ref gq160]))] s.heap := hP
  have hl := lv_entry ([.ref gx, .int p0, .int p1, .int p2, .ref go]) (n := 6) (Nat.le_of_ble_eq_true rfl)
  rw [lg_entry_eq]
  generalize (lg_sl ([.ref gx, .int p0, .int p1, .int p2, .ref go]) ++ List.replicate (6 - (lg_sl ([.ref gx, .int p0, .int p1, .int p2, .ref go])).length) Slot.unset).toArray = ls at hl ⊢
  have hl : lv_has ls 6 [(0, .ref gx), (1, .int p0), (2, .int p1), (3, .int p2), (4, .ref go)] := hl
  refine lv_aload hx hb dL_leftOf_0 (lv_at hl 4 rfl) ?_
  refine lv_iconst (v := 0) hx hb dL_leftOf_2 (by decide) ?_
  refine lv_aload_n hx hb dL_leftOf_3 rfl (lv_at hl 0 rfl) ?_
  refine lv_iload_n hx hb dL_leftOf_4 rfl (lv_at hl 1 rfl) ?_
  refine lv_iload_n hx hb dL_leftOf_5 rfl (lv_at hl 2 rfl) ?_
  refine lv_iload_n hx hb dL_leftOf_6 rfl (lv_at hl 3 rfl) ?_
  have hPc := hP.sub (ws' := [(gx, .inr (11, [.ref gq1, .ref gq4, .ref gq13, .ref gq136, .ref gq137, .ref gq138, .ref gq172, .ref gq184, .ref gq150, .ref gq161, .int (-1)])), (gq150, .inr (2, [.int 0, .ref gq151, .ref gq152, .ref gq153, .ref gq154, .ref gq155, .ref gq156, .int 0, .ref gq157, .ref gq158, .ref gq159, .int 0, .ref gq160]))]) [0, 1] rfl
  have hDc := hD.sub (ws' := [(gx, .inr (11, [.ref gq1, .ref gq4, .ref gq13, .ref gq136, .ref gq137, .ref gq138, .ref gq172, .ref gq184, .ref gq150, .ref gq161, .int (-1)])), (gq150, .inr (2, [.int 0, .ref gq151, .ref gq152, .ref gq153, .ref gq154, .ref gq155, .ref gq156, .int 0, .ref gq157, .ref gq158, .ref gq159, .int 0, .ref gq160]))]) [0, 1] (by decide) rfl
  have hKc := hK.sub (tys' := []) [] rfl
  have hFc := va_free (wc := [(gx, .inr (11, [.ref gq1, .ref gq4, .ref gq13, .ref gq136, .ref gq137, .ref gq138, .ref gq172, .ref gq184, .ref gq150, .ref gq161, .int (-1)])), (gq150, .inr (2, [.int 0, .ref gq151, .ref gq152, .ref gq153, .ref gq154, .ref gq155, .ref gq156, .int 0, .ref gq157, .ref gq158, .ref gq159, .int 0, .ref gq160]))]) hD hS hA [0, 1] rfl
  refine vx_calli (vx_runV (As := [.int p0, .int p1, .int p2]) (rest := [.int 0, .ref go]) ⟨hx, hb, hml, hown, hts⟩ (kX11_leftOf l dC dI (gx := gx) (gq1 := gq1) (gq4 := gq4) (gq13 := gq13) (gq136 := gq136) (gq137 := gq137) (gq138 := gq138) (gq150 := gq150) (gq151 := gq151) (gq152 := gq152) (gq153 := gq153) (gq154 := gq154) (gq155 := gq155) (gq156 := gq156) (gq157 := gq157) (gq158 := gq158) (gq159 := gq159) (gq160 := gq160) (gq161 := gq161) (gq172 := gq172) (gq184 := gq184) (p0 := p0) (p1 := p1) (p2 := p2) (sz := _) (hl9 := hl9)) (cwV 3 hts (gi_V qw528 qw529 qw530 qw222 (gi_z qw527)) rfl rfl rfl (by decide +kernel) ⟨Nat.le_of_ble_eq_true rfl, Nat.le_of_ble_eq_true rfl⟩) ⟨PRE.blind, va_recv hKc hPc (ci := 11) (q0 := 0) rfl rfl, PRE.of hE hS hFc hPc hKc hDc⟩ rfl rfl hl.1 rfl (lv_room (Nat.le_of_ble_eq_true rfl)) dL_leftOf_7 ⟨Nat.le_of_ble_eq_true rfl, Nat.le_of_ble_eq_true rfl⟩) hS (fun q _ h => hFc q h) hFc (fun q _ h => hFc q h) (fun E ce q9 u t H locs ht hvm hw hB hz1 hk1 hS hce hcv hcl => ?_) (fun _ u t H locs ht hvm hw hB hz1 hk1 hS => hw.elim)
  obtain ⟨rfl, hB⟩ := hB
  obtain ⟨hP, hD, hK⟩ := JOIN (wr := []) hP hD hK [0, 1] [] [] rfl rfl (by decide) (by decide) rfl hk1 hFc ht hvm hB
  have hP : va_P (dC, dI) cls [] H := hP
  have hD : va_D A [] := hD
  have hK : va_K (dC, dI) cls [] s := hK
  refine vx_widen (k := 1) (n := 6) (Nat.le_of_ble_eq_true rfl) (Nat.le_of_ble_eq_true rfl) ?_
  refine vx_catch (own := RL) (name := "java/lang/IndexOutOfBoundsException") hown [] ⟨0, 12, 15, 24⟩ [] (htab.trans rfl) (fun z hz => by cases hz) (by decide) (by decide) (hts _ qw462) (hE.word (List.mem_append_right _ (tbl_9 (i := 38) rfl)) rfl) hce hcv hcl ?_
  refine lv_astore (lv' := [(5, .ref q9), (0, .ref gx), (1, .int p0), (2, .int p1), (3, .int p2), (4, .ref go)]) hx hb dL_leftOf_15 hl (by decide) rfl (fun ls hl => ?_)
  refine lv_iconst (v := 1) hx hb dL_leftOf_17 (by decide) ?_
  have hP9 : va_P (dC, dI) cls [] H := hP.sub [] rfl
  have hD9 : va_D A [] := hD.sub [] (by decide) rfl
  have hK9 : va_K (dC, dI) cls [] s := hK.sub [] rfl
  exact W.iret (v := 1) hx hb hr (fun t ht hW => ⟨⟨1, (), rfl, rfl, ⟨by rw [ht]; exact hP9, va_K.moved hW.alike hK9, hD9⟩⟩, hS.F ht⟩) hS.2.2 dL_leftOf_18
set_option maxHeartbeats 4000000 in
set_option maxRecDepth 100000 in
theorem kL_rightOf {zs : Nat × Nat} (l : Launch) (dC : Nat → ClassId) (dI : Nat → Nat → Nat) (gx : Nat) (gq1 : Nat) (gq4 : Nat) (gq13 : Nat) (gq136 : Nat) (gq137 : Nat) (gq138 : Nat) (gq150 : Nat) (gq151 : Nat) (gq152 : Nat) (gq153 : Nat) (gq154 : Nat) (gq155 : Nat) (gq156 : Nat) (gq157 : Nat) (gq158 : Nat) (gq159 : Nat) (gq160 : Nat) (gq161 : Nat) (gq172 : Nat) (gq184 : Nat) (go : Nat) (p0 : Int32) (p1 : Int32) (p2 : Int32) (sz : Nat) (hl9 : l.stackTraces = false)  : Met l yL_rightOf (wh yL_rightOf cL_rightOf 6 (Option.some Jvm.ClassFile.FieldType.int) [(0, 12, 15, 24)]) ({ frames := 10, cells := 1, slots := 6, locals := 191 }) (va_Pc [.ref gx, .int p0, .int p1, .int p2, .ref go] (PRE zs dC dI [(gx, .inr (11, [.ref gq1, .ref gq4, .ref gq13, .ref gq136, .ref gq137, .ref gq138, .ref gq172, .ref gq184, .ref gq150, .ref gq161, .int (-1)])), (gq150, .inr (2, [.int 0, .ref gq151, .ref gq152, .ref gq153, .ref gq154, .ref gq155, .ref gq156, .int 0, .ref gq157, .ref gq158, .ref gq159, .int 0, .ref gq160]))] [] sz)) (va_Qi (fun (r : Int32) (_ : Unit) => r = 1) (fun _ t => POST dC dI [] [] (va_A [(gx, .inr (11, [.ref gq1, .ref gq4, .ref gq13, .ref gq136, .ref gq137, .ref gq138, .ref gq172, .ref gq184, .ref gq150, .ref gq161, .int (-1)])), (gq150, .inr (2, [.int 0, .ref gq151, .ref gq152, .ref gq153, .ref gq154, .ref gq155, .ref gq156, .int 0, .ref gq157, .ref gq158, .ref gq159, .int 0, .ref gq160]))] sz) t) (va_A [(gx, .inr (11, [.ref gq1, .ref gq4, .ref gq13, .ref gq136, .ref gq137, .ref gq138, .ref gq172, .ref gq184, .ref gq150, .ref gq161, .int (-1)])), (gq150, .inr (2, [.int 0, .ref gq151, .ref gq152, .ref gq153, .ref gq154, .ref gq155, .ref gq156, .int 0, .ref gq157, .ref gq158, .ref gq159, .int 0, .ref gq160]))] sz)) 1 6 (va_A [(gx, .inr (11, [.ref gq1, .ref gq4, .ref gq13, .ref gq136, .ref gq137, .ref gq138, .ref gq172, .ref gq184, .ref gq150, .ref gq161, .int (-1)])), (gq150, .inr (2, [.int 0, .ref gq151, .ref gq152, .ref gq153, .ref gq154, .ref gq155, .ref gq156, .int 0, .ref gq157, .ref gq158, .ref gq159, .int 0, .ref gq160]))] sz) := by
  refine va_MetW (cc := cL_rightOf) (maxL := 6) (ret := (Option.some Jvm.ClassFile.FieldType.int)) (hh := [(0, 12, 15, 24)]) (by decide) rfl ?_
  intro p e s m args below meth c s₁ B hml hv
  obtain ⟨rfl, hsz, hP, hK, hD0, hE⟩ := hv
  have hx := B.exec
  have hb := B.bytes
  have hr := B.returns
  have hts0 := atoms_spec (ws := wh yL_rightOf cL_rightOf 6 (Option.some Jvm.ClassFile.FieldType.int) [(0, 12, 15, 24)]) B.pre
  have htab := vx_table B (hts0 _ List.mem_cons_self)
  have hts : ∀ w ∈ gw, w.before _ s = true := fun w h => hts0 w (List.mem_cons_of_mem _ h)
  have hown : s.vm.findClass RL = some m.cls := findClass_of_methodNamed B.named
  have hlocks := B.notSynchronized
  subst hsz
  have hD := hD0.self (sz := s.heap.size)
  generalize hAe : va_A [(gx, .inr (11, [.ref gq1, .ref gq4, .ref gq13, .ref gq136, .ref gq137, .ref gq138, .ref gq172, .ref gq184, .ref gq150, .ref gq161, .int (-1)])), (gq150, .inr (2, [.int 0, .ref gq151, .ref gq152, .ref gq153, .ref gq154, .ref gq155, .ref gq156, .int 0, .ref gq157, .ref gq158, .ref gq159, .int 0, .ref gq160]))] s.heap.size = A at hD hE ⊢
  have hA : ∀ q : Nat, s.heap.size ≤ q → A q := fun q h => by rw [← hAe]; exact Or.inr h
  have hS : va_S A s.heap s.heap [] := va_S.rf
  have hP : va_P (dC, dI) cls [(gx, .inr (11, [.ref gq1, .ref gq4, .ref gq13, .ref gq136, .ref gq137, .ref gq138, .ref gq172, .ref gq184, .ref gq150, .ref gq161, .int (-1)])), (gq150, .inr (2, [.int 0, .ref gq151, .ref gq152, .ref gq153, .ref gq154, .ref gq155, .ref gq156, .int 0, .ref gq157, .ref gq158, .ref gq159, .int 0, .ref gq160]))] s.heap := hP
  have hl := lv_entry ([.ref gx, .int p0, .int p1, .int p2, .ref go]) (n := 6) (Nat.le_of_ble_eq_true rfl)
  rw [lg_entry_eq]
  generalize (lg_sl ([.ref gx, .int p0, .int p1, .int p2, .ref go]) ++ List.replicate (6 - (lg_sl ([.ref gx, .int p0, .int p1, .int p2, .ref go])).length) Slot.unset).toArray = ls at hl ⊢
  have hl : lv_has ls 6 [(0, .ref gx), (1, .int p0), (2, .int p1), (3, .int p2), (4, .ref go)] := hl
  refine lv_aload hx hb dL_rightOf_0 (lv_at hl 4 rfl) ?_
  refine lv_iconst (v := 0) hx hb dL_rightOf_2 (by decide) ?_
  refine lv_aload_n hx hb dL_rightOf_3 rfl (lv_at hl 0 rfl) ?_
  refine lv_iload_n hx hb dL_rightOf_4 rfl (lv_at hl 1 rfl) ?_
  refine lv_iload_n hx hb dL_rightOf_5 rfl (lv_at hl 2 rfl) ?_
  refine lv_iload_n hx hb dL_rightOf_6 rfl (lv_at hl 3 rfl) ?_
  have hPc := hP.sub (ws' := [(gx, .inr (11, [.ref gq1, .ref gq4, .ref gq13, .ref gq136, .ref gq137, .ref gq138, .ref gq172, .ref gq184, .ref gq150, .ref gq161, .int (-1)])), (gq150, .inr (2, [.int 0, .ref gq151, .ref gq152, .ref gq153, .ref gq154, .ref gq155, .ref gq156, .int 0, .ref gq157, .ref gq158, .ref gq159, .int 0, .ref gq160]))]) [0, 1] rfl
  have hDc := hD.sub (ws' := [(gx, .inr (11, [.ref gq1, .ref gq4, .ref gq13, .ref gq136, .ref gq137, .ref gq138, .ref gq172, .ref gq184, .ref gq150, .ref gq161, .int (-1)])), (gq150, .inr (2, [.int 0, .ref gq151, .ref gq152, .ref gq153, .ref gq154, .ref gq155, .ref gq156, .int 0, .ref gq157, .ref gq158, .ref gq159, .int 0, .ref gq160]))]) [0, 1] (by decide) rfl
  have hKc := hK.sub (tys' := []) [] rfl
  have hFc := va_free (wc := [(gx, .inr (11, [.ref gq1, .ref gq4, .ref gq13, .ref gq136, .ref gq137, .ref gq138, .ref gq172, .ref gq184, .ref gq150, .ref gq161, .int (-1)])), (gq150, .inr (2, [.int 0, .ref gq151, .ref gq152, .ref gq153, .ref gq154, .ref gq155, .ref gq156, .int 0, .ref gq157, .ref gq158, .ref gq159, .int 0, .ref gq160]))]) hD hS hA [0, 1] rfl
  refine vx_calli (vx_runV (As := [.int p0, .int p1, .int p2]) (rest := [.int 0, .ref go]) ⟨hx, hb, hml, hown, hts⟩ (kX11_rightOf l dC dI (gx := gx) (gq1 := gq1) (gq4 := gq4) (gq13 := gq13) (gq136 := gq136) (gq137 := gq137) (gq138 := gq138) (gq150 := gq150) (gq151 := gq151) (gq152 := gq152) (gq153 := gq153) (gq154 := gq154) (gq155 := gq155) (gq156 := gq156) (gq157 := gq157) (gq158 := gq158) (gq159 := gq159) (gq160 := gq160) (gq161 := gq161) (gq172 := gq172) (gq184 := gq184) (p0 := p0) (p1 := p1) (p2 := p2) (sz := _) (hl9 := hl9)) (cwV 3 hts (gi_V qw532 qw533 qw534 qw222 (gi_z qw531)) rfl rfl rfl (by decide +kernel) ⟨Nat.le_of_ble_eq_true rfl, Nat.le_of_ble_eq_true rfl⟩) ⟨PRE.blind, va_recv hKc hPc (ci := 11) (q0 := 0) rfl rfl, PRE.of hE hS hFc hPc hKc hDc⟩ rfl rfl hl.1 rfl (lv_room (Nat.le_of_ble_eq_true rfl)) dL_rightOf_7 ⟨Nat.le_of_ble_eq_true rfl, Nat.le_of_ble_eq_true rfl⟩) hS (fun q _ h => hFc q h) hFc (fun q _ h => hFc q h) (fun E ce q9 u t H locs ht hvm hw hB hz1 hk1 hS hce hcv hcl => ?_) (fun _ u t H locs ht hvm hw hB hz1 hk1 hS => hw.elim)
  obtain ⟨rfl, hB⟩ := hB
  obtain ⟨hP, hD, hK⟩ := JOIN (wr := []) hP hD hK [0, 1] [] [] rfl rfl (by decide) (by decide) rfl hk1 hFc ht hvm hB
  have hP : va_P (dC, dI) cls [] H := hP
  have hD : va_D A [] := hD
  have hK : va_K (dC, dI) cls [] s := hK
  refine vx_widen (k := 1) (n := 6) (Nat.le_of_ble_eq_true rfl) (Nat.le_of_ble_eq_true rfl) ?_
  refine vx_catch (own := RL) (name := "java/lang/IndexOutOfBoundsException") hown [] ⟨0, 12, 15, 24⟩ [] (htab.trans rfl) (fun z hz => by cases hz) (by decide) (by decide) (hts _ qw462) (hE.word (List.mem_append_right _ (tbl_9 (i := 38) rfl)) rfl) hce hcv hcl ?_
  refine lv_astore (lv' := [(5, .ref q9), (0, .ref gx), (1, .int p0), (2, .int p1), (3, .int p2), (4, .ref go)]) hx hb dL_rightOf_15 hl (by decide) rfl (fun ls hl => ?_)
  refine lv_iconst (v := 1) hx hb dL_rightOf_17 (by decide) ?_
  have hP9 : va_P (dC, dI) cls [] H := hP.sub [] rfl
  have hD9 : va_D A [] := hD.sub [] (by decide) rfl
  have hK9 : va_K (dC, dI) cls [] s := hK.sub [] rfl
  exact W.iret (v := 1) hx hb hr (fun t ht hW => ⟨⟨1, (), rfl, rfl, ⟨by rw [ht]; exact hP9, va_K.moved hW.alike hK9, hD9⟩⟩, hS.F ht⟩) hS.2.2 dL_rightOf_18
set_option maxHeartbeats 4000000 in
set_option maxRecDepth 100000 in
theorem kL_lines {zs : Nat × Nat} (l : Launch) (dC : Nat → ClassId) (dI : Nat → Nat → Nat) (gx : Nat) (gq1 : Nat) (gq4 : Nat) (gq13 : Nat) (gq136 : Nat) (gq137 : Nat) (gq138 : Nat) (gq150 : Nat) (gq151 : Nat) (gq152 : Nat) (gq153 : Nat) (gq154 : Nat) (gq155 : Nat) (gq156 : Nat) (gq157 : Nat) (gq158 : Nat) (gq159 : Nat) (gq160 : Nat) (gq161 : Nat) (gq172 : Nat) (gq184 : Nat) (go : Nat) (p0 : Int32) (sz : Nat) (hl9 : l.stackTraces = false)  : Met l yL_lines (wh yL_lines cL_lines 4 (Option.some Jvm.ClassFile.FieldType.int) [(0, 9, 12, 24)]) ({ frames := 8, cells := 1, slots := 6, locals := 142 }) (va_Pc [.ref gx, .int p0, .ref go] (PRE zs dC dI [(gx, .inr (11, [.ref gq1, .ref gq4, .ref gq13, .ref gq136, .ref gq137, .ref gq138, .ref gq172, .ref gq184, .ref gq150, .ref gq161, .int (-1)])), (gq150, .inr (2, [.int 0, .ref gq151, .ref gq152, .ref gq153, .ref gq154, .ref gq155, .ref gq156, .int 0, .ref gq157, .ref gq158, .ref gq159, .int 0, .ref gq160]))] [] sz)) (va_Qi (fun (r : Int32) (_ : Unit) => r = 1) (fun _ t => POST dC dI [] [] (va_A [(gx, .inr (11, [.ref gq1, .ref gq4, .ref gq13, .ref gq136, .ref gq137, .ref gq138, .ref gq172, .ref gq184, .ref gq150, .ref gq161, .int (-1)])), (gq150, .inr (2, [.int 0, .ref gq151, .ref gq152, .ref gq153, .ref gq154, .ref gq155, .ref gq156, .int 0, .ref gq157, .ref gq158, .ref gq159, .int 0, .ref gq160]))] sz) t) (va_A [(gx, .inr (11, [.ref gq1, .ref gq4, .ref gq13, .ref gq136, .ref gq137, .ref gq138, .ref gq172, .ref gq184, .ref gq150, .ref gq161, .int (-1)])), (gq150, .inr (2, [.int 0, .ref gq151, .ref gq152, .ref gq153, .ref gq154, .ref gq155, .ref gq156, .int 0, .ref gq157, .ref gq158, .ref gq159, .int 0, .ref gq160]))] sz)) 1 6 (va_A [(gx, .inr (11, [.ref gq1, .ref gq4, .ref gq13, .ref gq136, .ref gq137, .ref gq138, .ref gq172, .ref gq184, .ref gq150, .ref gq161, .int (-1)])), (gq150, .inr (2, [.int 0, .ref gq151, .ref gq152, .ref gq153, .ref gq154, .ref gq155, .ref gq156, .int 0, .ref gq157, .ref gq158, .ref gq159, .int 0, .ref gq160]))] sz) := by
  refine va_MetW (cc := cL_lines) (maxL := 4) (ret := (Option.some Jvm.ClassFile.FieldType.int)) (hh := [(0, 9, 12, 24)]) (by decide) rfl ?_
  intro p e s m args below meth c s₁ B hml hv
  obtain ⟨rfl, hsz, hP, hK, hD0, hE⟩ := hv
  have hx := B.exec
  have hb := B.bytes
  have hr := B.returns
  have hts0 := atoms_spec (ws := wh yL_lines cL_lines 4 (Option.some Jvm.ClassFile.FieldType.int) [(0, 9, 12, 24)]) B.pre
  have htab := vx_table B (hts0 _ List.mem_cons_self)
  have hts : ∀ w ∈ gw, w.before _ s = true := fun w h => hts0 w (List.mem_cons_of_mem _ h)
  have hown : s.vm.findClass RL = some m.cls := findClass_of_methodNamed B.named
  have hlocks := B.notSynchronized
  subst hsz
  have hD := hD0.self (sz := s.heap.size)
  generalize hAe : va_A [(gx, .inr (11, [.ref gq1, .ref gq4, .ref gq13, .ref gq136, .ref gq137, .ref gq138, .ref gq172, .ref gq184, .ref gq150, .ref gq161, .int (-1)])), (gq150, .inr (2, [.int 0, .ref gq151, .ref gq152, .ref gq153, .ref gq154, .ref gq155, .ref gq156, .int 0, .ref gq157, .ref gq158, .ref gq159, .int 0, .ref gq160]))] s.heap.size = A at hD hE ⊢
  have hA : ∀ q : Nat, s.heap.size ≤ q → A q := fun q h => by rw [← hAe]; exact Or.inr h
  have hS : va_S A s.heap s.heap [] := va_S.rf
  have hP : va_P (dC, dI) cls [(gx, .inr (11, [.ref gq1, .ref gq4, .ref gq13, .ref gq136, .ref gq137, .ref gq138, .ref gq172, .ref gq184, .ref gq150, .ref gq161, .int (-1)])), (gq150, .inr (2, [.int 0, .ref gq151, .ref gq152, .ref gq153, .ref gq154, .ref gq155, .ref gq156, .int 0, .ref gq157, .ref gq158, .ref gq159, .int 0, .ref gq160]))] s.heap := hP
  have hl := lv_entry ([.ref gx, .int p0, .ref go]) (n := 4) (Nat.le_of_ble_eq_true rfl)
  rw [lg_entry_eq]
  generalize (lg_sl ([.ref gx, .int p0, .ref go]) ++ List.replicate (4 - (lg_sl ([.ref gx, .int p0, .ref go])).length) Slot.unset).toArray = ls at hl ⊢
  have hl : lv_has ls 4 [(0, .ref gx), (1, .int p0), (2, .ref go)] := hl
  refine lv_aload_n hx hb dL_lines_0 rfl (lv_at hl 2 rfl) ?_
  refine lv_iconst (v := 0) hx hb dL_lines_1 (by decide) ?_
  refine lv_aload_n hx hb dL_lines_2 rfl (lv_at hl 0 rfl) ?_
  refine lv_iload_n hx hb dL_lines_3 rfl (lv_at hl 1 rfl) ?_
  have hPc := hP.sub (ws' := [(gx, .inr (11, [.ref gq1, .ref gq4, .ref gq13, .ref gq136, .ref gq137, .ref gq138, .ref gq172, .ref gq184, .ref gq150, .ref gq161, .int (-1)])), (gq150, .inr (2, [.int 0, .ref gq151, .ref gq152, .ref gq153, .ref gq154, .ref gq155, .ref gq156, .int 0, .ref gq157, .ref gq158, .ref gq159, .int 0, .ref gq160]))]) [0, 1] rfl
  have hDc := hD.sub (ws' := [(gx, .inr (11, [.ref gq1, .ref gq4, .ref gq13, .ref gq136, .ref gq137, .ref gq138, .ref gq172, .ref gq184, .ref gq150, .ref gq161, .int (-1)])), (gq150, .inr (2, [.int 0, .ref gq151, .ref gq152, .ref gq153, .ref gq154, .ref gq155, .ref gq156, .int 0, .ref gq157, .ref gq158, .ref gq159, .int 0, .ref gq160]))]) [0, 1] (by decide) rfl
  have hKc := hK.sub (tys' := []) [] rfl
  have hFc := va_free (wc := [(gx, .inr (11, [.ref gq1, .ref gq4, .ref gq13, .ref gq136, .ref gq137, .ref gq138, .ref gq172, .ref gq184, .ref gq150, .ref gq161, .int (-1)])), (gq150, .inr (2, [.int 0, .ref gq151, .ref gq152, .ref gq153, .ref gq154, .ref gq155, .ref gq156, .int 0, .ref gq157, .ref gq158, .ref gq159, .int 0, .ref gq160]))]) hD hS hA [0, 1] rfl
  refine vx_calli (vx_runV (As := [.int p0]) (rest := [.int 0, .ref go]) ⟨hx, hb, hml, hown, hts⟩ (kX11_lines l dC dI (gx := gx) (gq1 := gq1) (gq4 := gq4) (gq13 := gq13) (gq136 := gq136) (gq137 := gq137) (gq138 := gq138) (gq150 := gq150) (gq151 := gq151) (gq152 := gq152) (gq153 := gq153) (gq154 := gq154) (gq155 := gq155) (gq156 := gq156) (gq157 := gq157) (gq158 := gq158) (gq159 := gq159) (gq160 := gq160) (gq161 := gq161) (gq172 := gq172) (gq184 := gq184) (p0 := p0) (sz := _) (hl9 := hl9)) (cwV 1 hts (gi_V qw536 qw537 qw538 qw222 (gi_z qw535)) rfl rfl rfl (by decide +kernel) ⟨Nat.le_of_ble_eq_true rfl, Nat.le_of_ble_eq_true rfl⟩) ⟨PRE.blind, va_recv hKc hPc (ci := 11) (q0 := 0) rfl rfl, PRE.of hE hS hFc hPc hKc hDc⟩ rfl rfl hl.1 rfl (lv_room (Nat.le_of_ble_eq_true rfl)) dL_lines_4 ⟨Nat.le_of_ble_eq_true rfl, Nat.le_of_ble_eq_true rfl⟩) hS (fun q _ h => hFc q h) hFc (fun q _ h => hFc q h) (fun E ce q9 u t H locs ht hvm hw hB hz1 hk1 hS hce hcv hcl => ?_) (fun _ u t H locs ht hvm hw hB hz1 hk1 hS => hw.elim)
  obtain ⟨rfl, hB⟩ := hB
  obtain ⟨hP, hD, hK⟩ := JOIN (wr := []) hP hD hK [0, 1] [] [] rfl rfl (by decide) (by decide) rfl hk1 hFc ht hvm hB
  have hP : va_P (dC, dI) cls [] H := hP
  have hD : va_D A [] := hD
  have hK : va_K (dC, dI) cls [] s := hK
  refine vx_widen (k := 1) (n := 6) (Nat.le_of_ble_eq_true rfl) (Nat.le_of_ble_eq_true rfl) ?_
  refine vx_catch (own := RL) (name := "java/lang/IndexOutOfBoundsException") hown [] ⟨0, 9, 12, 24⟩ [] (htab.trans rfl) (fun z hz => by cases hz) (by decide) (by decide) (hts _ qw462) (hE.word (List.mem_append_right _ (tbl_9 (i := 38) rfl)) rfl) hce hcv hcl ?_
  refine lv_astore_n (lv' := [(3, .ref q9), (0, .ref gx), (1, .int p0), (2, .ref go)]) hx hb dL_lines_12 rfl hl (by decide) rfl (fun ls hl => ?_)
  refine lv_iconst (v := 1) hx hb dL_lines_13 (by decide) ?_
  have hP9 : va_P (dC, dI) cls [] H := hP.sub [] rfl
  have hD9 : va_D A [] := hD.sub [] (by decide) rfl
  have hK9 : va_K (dC, dI) cls [] s := hK.sub [] rfl
  exact W.iret (v := 1) hx hb hr (fun t ht hW => ⟨⟨1, (), rfl, rfl, ⟨by rw [ht]; exact hP9, va_K.moved hW.alike hK9, hD9⟩⟩, hS.F ht⟩) hS.2.2 dL_lines_14
set_option maxHeartbeats 4000000 in
set_option maxRecDepth 100000 in
theorem kL_codeKind {zs : Nat × Nat} (l : Launch) (dC : Nat → ClassId) (dI : Nat → Nat → Nat) (gx : Nat) (gq1 : Nat) (gq4 : Nat) (gq13 : Nat) (gq136 : Nat) (gq137 : Nat) (gq138 : Nat) (gq150 : Nat) (gq151 : Nat) (gq152 : Nat) (gq153 : Nat) (gq154 : Nat) (gq155 : Nat) (gq156 : Nat) (gq157 : Nat) (gq158 : Nat) (gq159 : Nat) (gq160 : Nat) (gq161 : Nat) (gq172 : Nat) (gq184 : Nat) (go : Nat) (p0 : Int32) (p1 : Int32) (sz : Nat) (hl9 : l.stackTraces = false)  : Met l yL_codeKind (wh yL_codeKind cL_codeKind 5 (Option.some Jvm.ClassFile.FieldType.int) [(0, 10, 13, 24)]) ({ frames := 9, cells := 1, slots := 6, locals := 165 }) (va_Pc [.ref gx, .int p0, .int p1, .ref go] (PRE zs dC dI [(gx, .inr (11, [.ref gq1, .ref gq4, .ref gq13, .ref gq136, .ref gq137, .ref gq138, .ref gq172, .ref gq184, .ref gq150, .ref gq161, .int (-1)])), (gq150, .inr (2, [.int 0, .ref gq151, .ref gq152, .ref gq153, .ref gq154, .ref gq155, .ref gq156, .int 0, .ref gq157, .ref gq158, .ref gq159, .int 0, .ref gq160]))] [] sz)) (va_Qi (fun (r : Int32) (_ : Unit) => r = 1) (fun _ t => POST dC dI [] [] (va_A [(gx, .inr (11, [.ref gq1, .ref gq4, .ref gq13, .ref gq136, .ref gq137, .ref gq138, .ref gq172, .ref gq184, .ref gq150, .ref gq161, .int (-1)])), (gq150, .inr (2, [.int 0, .ref gq151, .ref gq152, .ref gq153, .ref gq154, .ref gq155, .ref gq156, .int 0, .ref gq157, .ref gq158, .ref gq159, .int 0, .ref gq160]))] sz) t) (va_A [(gx, .inr (11, [.ref gq1, .ref gq4, .ref gq13, .ref gq136, .ref gq137, .ref gq138, .ref gq172, .ref gq184, .ref gq150, .ref gq161, .int (-1)])), (gq150, .inr (2, [.int 0, .ref gq151, .ref gq152, .ref gq153, .ref gq154, .ref gq155, .ref gq156, .int 0, .ref gq157, .ref gq158, .ref gq159, .int 0, .ref gq160]))] sz)) 1 6 (va_A [(gx, .inr (11, [.ref gq1, .ref gq4, .ref gq13, .ref gq136, .ref gq137, .ref gq138, .ref gq172, .ref gq184, .ref gq150, .ref gq161, .int (-1)])), (gq150, .inr (2, [.int 0, .ref gq151, .ref gq152, .ref gq153, .ref gq154, .ref gq155, .ref gq156, .int 0, .ref gq157, .ref gq158, .ref gq159, .int 0, .ref gq160]))] sz) := by
  refine va_MetW (cc := cL_codeKind) (maxL := 5) (ret := (Option.some Jvm.ClassFile.FieldType.int)) (hh := [(0, 10, 13, 24)]) (by decide) rfl ?_
  intro p e s m args below meth c s₁ B hml hv
  obtain ⟨rfl, hsz, hP, hK, hD0, hE⟩ := hv
  have hx := B.exec
  have hb := B.bytes
  have hr := B.returns
  have hts0 := atoms_spec (ws := wh yL_codeKind cL_codeKind 5 (Option.some Jvm.ClassFile.FieldType.int) [(0, 10, 13, 24)]) B.pre
  have htab := vx_table B (hts0 _ List.mem_cons_self)
  have hts : ∀ w ∈ gw, w.before _ s = true := fun w h => hts0 w (List.mem_cons_of_mem _ h)
  have hown : s.vm.findClass RL = some m.cls := findClass_of_methodNamed B.named
  have hlocks := B.notSynchronized
  subst hsz
  have hD := hD0.self (sz := s.heap.size)
  generalize hAe : va_A [(gx, .inr (11, [.ref gq1, .ref gq4, .ref gq13, .ref gq136, .ref gq137, .ref gq138, .ref gq172, .ref gq184, .ref gq150, .ref gq161, .int (-1)])), (gq150, .inr (2, [.int 0, .ref gq151, .ref gq152, .ref gq153, .ref gq154, .ref gq155, .ref gq156, .int 0, .ref gq157, .ref gq158, .ref gq159, .int 0, .ref gq160]))] s.heap.size = A at hD hE ⊢
  have hA : ∀ q : Nat, s.heap.size ≤ q → A q := fun q h => by rw [← hAe]; exact Or.inr h
  have hS : va_S A s.heap s.heap [] := va_S.rf
  have hP : va_P (dC, dI) cls [(gx, .inr (11, [.ref gq1, .ref gq4, .ref gq13, .ref gq136, .ref gq137, .ref gq138, .ref gq172, .ref gq184, .ref gq150, .ref gq161, .int (-1)])), (gq150, .inr (2, [.int 0, .ref gq151, .ref gq152, .ref gq153, .ref gq154, .ref gq155, .ref gq156, .int 0, .ref gq157, .ref gq158, .ref gq159, .int 0, .ref gq160]))] s.heap := hP
  have hl := lv_entry ([.ref gx, .int p0, .int p1, .ref go]) (n := 5) (Nat.le_of_ble_eq_true rfl)
  rw [lg_entry_eq]
  generalize (lg_sl ([.ref gx, .int p0, .int p1, .ref go]) ++ List.replicate (5 - (lg_sl ([.ref gx, .int p0, .int p1, .ref go])).length) Slot.unset).toArray = ls at hl ⊢
  have hl : lv_has ls 5 [(0, .ref gx), (1, .int p0), (2, .int p1), (3, .ref go)] := hl
  refine lv_aload_n hx hb dL_codeKind_0 rfl (lv_at hl 3 rfl) ?_
  refine lv_iconst (v := 0) hx hb dL_codeKind_1 (by decide) ?_
  refine lv_aload_n hx hb dL_codeKind_2 rfl (lv_at hl 0 rfl) ?_
  refine lv_iload_n hx hb dL_codeKind_3 rfl (lv_at hl 1 rfl) ?_
  refine lv_iload_n hx hb dL_codeKind_4 rfl (lv_at hl 2 rfl) ?_
  have hPc := hP.sub (ws' := [(gx, .inr (11, [.ref gq1, .ref gq4, .ref gq13, .ref gq136, .ref gq137, .ref gq138, .ref gq172, .ref gq184, .ref gq150, .ref gq161, .int (-1)])), (gq150, .inr (2, [.int 0, .ref gq151, .ref gq152, .ref gq153, .ref gq154, .ref gq155, .ref gq156, .int 0, .ref gq157, .ref gq158, .ref gq159, .int 0, .ref gq160]))]) [0, 1] rfl
  have hDc := hD.sub (ws' := [(gx, .inr (11, [.ref gq1, .ref gq4, .ref gq13, .ref gq136, .ref gq137, .ref gq138, .ref gq172, .ref gq184, .ref gq150, .ref gq161, .int (-1)])), (gq150, .inr (2, [.int 0, .ref gq151, .ref gq152, .ref gq153, .ref gq154, .ref gq155, .ref gq156, .int 0, .ref gq157, .ref gq158, .ref gq159, .int 0, .ref gq160]))]) [0, 1] (by decide) rfl
  have hKc := hK.sub (tys' := []) [] rfl
  have hFc := va_free (wc := [(gx, .inr (11, [.ref gq1, .ref gq4, .ref gq13, .ref gq136, .ref gq137, .ref gq138, .ref gq172, .ref gq184, .ref gq150, .ref gq161, .int (-1)])), (gq150, .inr (2, [.int 0, .ref gq151, .ref gq152, .ref gq153, .ref gq154, .ref gq155, .ref gq156, .int 0, .ref gq157, .ref gq158, .ref gq159, .int 0, .ref gq160]))]) hD hS hA [0, 1] rfl
  refine vx_calli (vx_runV (As := [.int p0, .int p1]) (rest := [.int 0, .ref go]) ⟨hx, hb, hml, hown, hts⟩ (kX11_codeKind l dC dI (gx := gx) (gq1 := gq1) (gq4 := gq4) (gq13 := gq13) (gq136 := gq136) (gq137 := gq137) (gq138 := gq138) (gq150 := gq150) (gq151 := gq151) (gq152 := gq152) (gq153 := gq153) (gq154 := gq154) (gq155 := gq155) (gq156 := gq156) (gq157 := gq157) (gq158 := gq158) (gq159 := gq159) (gq160 := gq160) (gq161 := gq161) (gq172 := gq172) (gq184 := gq184) (p0 := p0) (p1 := p1) (sz := _) (hl9 := hl9)) (cwV 2 hts (gi_V qw540 qw541 qw542 qw222 (gi_z qw539)) rfl rfl rfl (by decide +kernel) ⟨Nat.le_of_ble_eq_true rfl, Nat.le_of_ble_eq_true rfl⟩) ⟨PRE.blind, va_recv hKc hPc (ci := 11) (q0 := 0) rfl rfl, PRE.of hE hS hFc hPc hKc hDc⟩ rfl rfl hl.1 rfl (lv_room (Nat.le_of_ble_eq_true rfl)) dL_codeKind_5 ⟨Nat.le_of_ble_eq_true rfl, Nat.le_of_ble_eq_true rfl⟩) hS (fun q _ h => hFc q h) hFc (fun q _ h => hFc q h) (fun E ce q9 u t H locs ht hvm hw hB hz1 hk1 hS hce hcv hcl => ?_) (fun _ u t H locs ht hvm hw hB hz1 hk1 hS => hw.elim)
  obtain ⟨rfl, hB⟩ := hB
  obtain ⟨hP, hD, hK⟩ := JOIN (wr := []) hP hD hK [0, 1] [] [] rfl rfl (by decide) (by decide) rfl hk1 hFc ht hvm hB
  have hP : va_P (dC, dI) cls [] H := hP
  have hD : va_D A [] := hD
  have hK : va_K (dC, dI) cls [] s := hK
  refine vx_widen (k := 1) (n := 6) (Nat.le_of_ble_eq_true rfl) (Nat.le_of_ble_eq_true rfl) ?_
  refine vx_catch (own := RL) (name := "java/lang/IndexOutOfBoundsException") hown [] ⟨0, 10, 13, 24⟩ [] (htab.trans rfl) (fun z hz => by cases hz) (by decide) (by decide) (hts _ qw462) (hE.word (List.mem_append_right _ (tbl_9 (i := 38) rfl)) rfl) hce hcv hcl ?_
  refine lv_astore (lv' := [(4, .ref q9), (0, .ref gx), (1, .int p0), (2, .int p1), (3, .ref go)]) hx hb dL_codeKind_13 hl (by decide) rfl (fun ls hl => ?_)
  refine lv_iconst (v := 1) hx hb dL_codeKind_15 (by decide) ?_
  have hP9 : va_P (dC, dI) cls [] H := hP.sub [] rfl
  have hD9 : va_D A [] := hD.sub [] (by decide) rfl
  have hK9 : va_K (dC, dI) cls [] s := hK.sub [] rfl
  exact W.iret (v := 1) hx hb hr (fun t ht hW => ⟨⟨1, (), rfl, rfl, ⟨by rw [ht]; exact hP9, va_K.moved hW.alike hK9, hD9⟩⟩, hS.F ht⟩) hS.2.2 dL_codeKind_16
set_option maxHeartbeats 4000000 in
set_option maxRecDepth 100000 in
theorem kL_codeGives {zs : Nat × Nat} (l : Launch) (dC : Nat → ClassId) (dI : Nat → Nat → Nat) (gx : Nat) (gq1 : Nat) (gq4 : Nat) (gq13 : Nat) (gq136 : Nat) (gq137 : Nat) (gq138 : Nat) (gq150 : Nat) (gq151 : Nat) (gq152 : Nat) (gq153 : Nat) (gq154 : Nat) (gq155 : Nat) (gq156 : Nat) (gq157 : Nat) (gq158 : Nat) (gq159 : Nat) (gq160 : Nat) (gq161 : Nat) (gq172 : Nat) (gq184 : Nat) (go : Nat) (p0 : Int32) (p1 : Int32) (sz : Nat) (hl9 : l.stackTraces = false)  : Met l yL_codeGives (wh yL_codeGives cL_codeGives 5 (Option.some Jvm.ClassFile.FieldType.int) [(0, 10, 13, 24)]) ({ frames := 9, cells := 1, slots := 6, locals := 165 }) (va_Pc [.ref gx, .int p0, .int p1, .ref go] (PRE zs dC dI [(gx, .inr (11, [.ref gq1, .ref gq4, .ref gq13, .ref gq136, .ref gq137, .ref gq138, .ref gq172, .ref gq184, .ref gq150, .ref gq161, .int (-1)])), (gq150, .inr (2, [.int 0, .ref gq151, .ref gq152, .ref gq153, .ref gq154, .ref gq155, .ref gq156, .int 0, .ref gq157, .ref gq158, .ref gq159, .int 0, .ref gq160]))] [] sz)) (va_Qi (fun (r : Int32) (_ : Unit) => r = 1) (fun _ t => POST dC dI [] [] (va_A [(gx, .inr (11, [.ref gq1, .ref gq4, .ref gq13, .ref gq136, .ref gq137, .ref gq138, .ref gq172, .ref gq184, .ref gq150, .ref gq161, .int (-1)])), (gq150, .inr (2, [.int 0, .ref gq151, .ref gq152, .ref gq153, .ref gq154, .ref gq155, .ref gq156, .int 0, .ref gq157, .ref gq158, .ref gq159, .int 0, .ref gq160]))] sz) t) (va_A [(gx, .inr (11, [.ref gq1, .ref gq4, .ref gq13, .ref gq136, .ref gq137, .ref gq138, .ref gq172, .ref gq184, .ref gq150, .ref gq161, .int (-1)])), (gq150, .inr (2, [.int 0, .ref gq151, .ref gq152, .ref gq153, .ref gq154, .ref gq155, .ref gq156, .int 0, .ref gq157, .ref gq158, .ref gq159, .int 0, .ref gq160]))] sz)) 1 6 (va_A [(gx, .inr (11, [.ref gq1, .ref gq4, .ref gq13, .ref gq136, .ref gq137, .ref gq138, .ref gq172, .ref gq184, .ref gq150, .ref gq161, .int (-1)])), (gq150, .inr (2, [.int 0, .ref gq151, .ref gq152, .ref gq153, .ref gq154, .ref gq155, .ref gq156, .int 0, .ref gq157, .ref gq158, .ref gq159, .int 0, .ref gq160]))] sz) := by
  refine va_MetW (cc := cL_codeGives) (maxL := 5) (ret := (Option.some Jvm.ClassFile.FieldType.int)) (hh := [(0, 10, 13, 24)]) (by decide) rfl ?_
  intro p e s m args below meth c s₁ B hml hv
  obtain ⟨rfl, hsz, hP, hK, hD0, hE⟩ := hv
  have hx := B.exec
  have hb := B.bytes
  have hr := B.returns
  have hts0 := atoms_spec (ws := wh yL_codeGives cL_codeGives 5 (Option.some Jvm.ClassFile.FieldType.int) [(0, 10, 13, 24)]) B.pre
  have htab := vx_table B (hts0 _ List.mem_cons_self)
  have hts : ∀ w ∈ gw, w.before _ s = true := fun w h => hts0 w (List.mem_cons_of_mem _ h)
  have hown : s.vm.findClass RL = some m.cls := findClass_of_methodNamed B.named
  have hlocks := B.notSynchronized
  subst hsz
  have hD := hD0.self (sz := s.heap.size)
  generalize hAe : va_A [(gx, .inr (11, [.ref gq1, .ref gq4, .ref gq13, .ref gq136, .ref gq137, .ref gq138, .ref gq172, .ref gq184, .ref gq150, .ref gq161, .int (-1)])), (gq150, .inr (2, [.int 0, .ref gq151, .ref gq152, .ref gq153, .ref gq154, .ref gq155, .ref gq156, .int 0, .ref gq157, .ref gq158, .ref gq159, .int 0, .ref gq160]))] s.heap.size = A at hD hE ⊢
  have hA : ∀ q : Nat, s.heap.size ≤ q → A q := fun q h => by rw [← hAe]; exact Or.inr h
  have hS : va_S A s.heap s.heap [] := va_S.rf
  have hP : va_P (dC, dI) cls [(gx, .inr (11, [.ref gq1, .ref gq4, .ref gq13, .ref gq136, .ref gq137, .ref gq138, .ref gq172, .ref gq184, .ref gq150, .ref gq161, .int (-1)])), (gq150, .inr (2, [.int 0, .ref gq151, .ref gq152, .ref gq153, .ref gq154, .ref gq155, .ref gq156, .int 0, .ref gq157, .ref gq158, .ref gq159, .int 0, .ref gq160]))] s.heap := hP
  have hl := lv_entry ([.ref gx, .int p0, .int p1, .ref go]) (n := 5) (Nat.le_of_ble_eq_true rfl)
  rw [lg_entry_eq]
  generalize (lg_sl ([.ref gx, .int p0, .int p1, .ref go]) ++ List.replicate (5 - (lg_sl ([.ref gx, .int p0, .int p1, .ref go])).length) Slot.unset).toArray = ls at hl ⊢
  have hl : lv_has ls 5 [(0, .ref gx), (1, .int p0), (2, .int p1), (3, .ref go)] := hl
  refine lv_aload_n hx hb dL_codeGives_0 rfl (lv_at hl 3 rfl) ?_
  refine lv_iconst (v := 0) hx hb dL_codeGives_1 (by decide) ?_
  refine lv_aload_n hx hb dL_codeGives_2 rfl (lv_at hl 0 rfl) ?_
  refine lv_iload_n hx hb dL_codeGives_3 rfl (lv_at hl 1 rfl) ?_
  refine lv_iload_n hx hb dL_codeGives_4 rfl (lv_at hl 2 rfl) ?_
  have hPc := hP.sub (ws' := [(gx, .inr (11, [.ref gq1, .ref gq4, .ref gq13, .ref gq136, .ref gq137, .ref gq138, .ref gq172, .ref gq184, .ref gq150, .ref gq161, .int (-1)])), (gq150, .inr (2, [.int 0, .ref gq151, .ref gq152, .ref gq153, .ref gq154, .ref gq155, .ref gq156, .int 0, .ref gq157, .ref gq158, .ref gq159, .int 0, .ref gq160]))]) [0, 1] rfl
  have hDc := hD.sub (ws' := [(gx, .inr (11, [.ref gq1, .ref gq4, .ref gq13, .ref gq136, .ref gq137, .ref gq138, .ref gq172, .ref gq184, .ref gq150, .ref gq161, .int (-1)])), (gq150, .inr (2, [.int 0, .ref gq151, .ref gq152, .ref gq153, .ref gq154, .ref gq155, .ref gq156, .int 0, .ref gq157, .ref gq158, .ref gq159, .int 0, .ref gq160]))]) [0, 1] (by decide) rfl
  have hKc := hK.sub (tys' := []) [] rfl
  have hFc := va_free (wc := [(gx, .inr (11, [.ref gq1, .ref gq4, .ref gq13, .ref gq136, .ref gq137, .ref gq138, .ref gq172, .ref gq184, .ref gq150, .ref gq161, .int (-1)])), (gq150, .inr (2, [.int 0, .ref gq151, .ref gq152, .ref gq153, .ref gq154, .ref gq155, .ref gq156, .int 0, .ref gq157, .ref gq158, .ref gq159, .int 0, .ref gq160]))]) hD hS hA [0, 1] rfl
  refine vx_calli (vx_runV (As := [.int p0, .int p1]) (rest := [.int 0, .ref go]) ⟨hx, hb, hml, hown, hts⟩ (kX11_codeGives l dC dI (gx := gx) (gq1 := gq1) (gq4 := gq4) (gq13 := gq13) (gq136 := gq136) (gq137 := gq137) (gq138 := gq138) (gq150 := gq150) (gq151 := gq151) (gq152 := gq152) (gq153 := gq153) (gq154 := gq154) (gq155 := gq155) (gq156 := gq156) (gq157 := gq157) (gq158 := gq158) (gq159 := gq159) (gq160 := gq160) (gq161 := gq161) (gq172 := gq172) (gq184 := gq184) (p0 := p0) (p1 := p1) (sz := _) (hl9 := hl9)) (cwV 2 hts (gi_V qw544 qw545 qw546 qw222 (gi_z qw543)) rfl rfl rfl (by decide +kernel) ⟨Nat.le_of_ble_eq_true rfl, Nat.le_of_ble_eq_true rfl⟩) ⟨PRE.blind, va_recv hKc hPc (ci := 11) (q0 := 0) rfl rfl, PRE.of hE hS hFc hPc hKc hDc⟩ rfl rfl hl.1 rfl (lv_room (Nat.le_of_ble_eq_true rfl)) dL_codeGives_5 ⟨Nat.le_of_ble_eq_true rfl, Nat.le_of_ble_eq_true rfl⟩) hS (fun q _ h => hFc q h) hFc (fun q _ h => hFc q h) (fun E ce q9 u t H locs ht hvm hw hB hz1 hk1 hS hce hcv hcl => ?_) (fun _ u t H locs ht hvm hw hB hz1 hk1 hS => hw.elim)
  obtain ⟨rfl, hB⟩ := hB
  obtain ⟨hP, hD, hK⟩ := JOIN (wr := []) hP hD hK [0, 1] [] [] rfl rfl (by decide) (by decide) rfl hk1 hFc ht hvm hB
  have hP : va_P (dC, dI) cls [] H := hP
  have hD : va_D A [] := hD
  have hK : va_K (dC, dI) cls [] s := hK
  refine vx_widen (k := 1) (n := 6) (Nat.le_of_ble_eq_true rfl) (Nat.le_of_ble_eq_true rfl) ?_
  refine vx_catch (own := RL) (name := "java/lang/IndexOutOfBoundsException") hown [] ⟨0, 10, 13, 24⟩ [] (htab.trans rfl) (fun z hz => by cases hz) (by decide) (by decide) (hts _ qw462) (hE.word (List.mem_append_right _ (tbl_9 (i := 38) rfl)) rfl) hce hcv hcl ?_
  refine lv_astore (lv' := [(4, .ref q9), (0, .ref gx), (1, .int p0), (2, .int p1), (3, .ref go)]) hx hb dL_codeGives_13 hl (by decide) rfl (fun ls hl => ?_)
  refine lv_iconst (v := 1) hx hb dL_codeGives_15 (by decide) ?_
  have hP9 : va_P (dC, dI) cls [] H := hP.sub [] rfl
  have hD9 : va_D A [] := hD.sub [] (by decide) rfl
  have hK9 : va_K (dC, dI) cls [] s := hK.sub [] rfl
  exact W.iret (v := 1) hx hb hr (fun t ht hW => ⟨⟨1, (), rfl, rfl, ⟨by rw [ht]; exact hP9, va_K.moved hW.alike hK9, hD9⟩⟩, hS.F ht⟩) hS.2.2 dL_codeGives_16
set_option maxHeartbeats 4000000 in
set_option maxRecDepth 100000 in
theorem kL_codeLeft {zs : Nat × Nat} (l : Launch) (dC : Nat → ClassId) (dI : Nat → Nat → Nat) (gx : Nat) (gq1 : Nat) (gq4 : Nat) (gq13 : Nat) (gq136 : Nat) (gq137 : Nat) (gq138 : Nat) (gq150 : Nat) (gq151 : Nat) (gq152 : Nat) (gq153 : Nat) (gq154 : Nat) (gq155 : Nat) (gq156 : Nat) (gq157 : Nat) (gq158 : Nat) (gq159 : Nat) (gq160 : Nat) (gq161 : Nat) (gq172 : Nat) (gq184 : Nat) (go : Nat) (p0 : Int32) (p1 : Int32) (sz : Nat) (hl9 : l.stackTraces = false)  : Met l yL_codeLeft (wh yL_codeLeft cL_codeLeft 5 (Option.some Jvm.ClassFile.FieldType.int) [(0, 10, 13, 24)]) ({ frames := 9, cells := 1, slots := 6, locals := 165 }) (va_Pc [.ref gx, .int p0, .int p1, .ref go] (PRE zs dC dI [(gx, .inr (11, [.ref gq1, .ref gq4, .ref gq13, .ref gq136, .ref gq137, .ref gq138, .ref gq172, .ref gq184, .ref gq150, .ref gq161, .int (-1)])), (gq150, .inr (2, [.int 0, .ref gq151, .ref gq152, .ref gq153, .ref gq154, .ref gq155, .ref gq156, .int 0, .ref gq157, .ref gq158, .ref gq159, .int 0, .ref gq160]))] [] sz)) (va_Qi (fun (r : Int32) (_ : Unit) => r = 1) (fun _ t => POST dC dI [] [] (va_A [(gx, .inr (11, [.ref gq1, .ref gq4, .ref gq13, .ref gq136, .ref gq137, .ref gq138, .ref gq172, .ref gq184, .ref gq150, .ref gq161, .int (-1)])), (gq150, .inr (2, [.int 0, .ref gq151, .ref gq152, .ref gq153, .ref gq154, .ref gq155, .ref gq156, .int 0, .ref gq157, .ref gq158, .ref gq159, .int 0, .ref gq160]))] sz) t) (va_A [(gx, .inr (11, [.ref gq1, .ref gq4, .ref gq13, .ref gq136, .ref gq137, .ref gq138, .ref gq172, .ref gq184, .ref gq150, .ref gq161, .int (-1)])), (gq150, .inr (2, [.int 0, .ref gq151, .ref gq152, .ref gq153, .ref gq154, .ref gq155, .ref gq156, .int 0, .ref gq157, .ref gq158, .ref gq159, .int 0, .ref gq160]))] sz)) 1 6 (va_A [(gx, .inr (11, [.ref gq1, .ref gq4, .ref gq13, .ref gq136, .ref gq137, .ref gq138, .ref gq172, .ref gq184, .ref gq150, .ref gq161, .int (-1)])), (gq150, .inr (2, [.int 0, .ref gq151, .ref gq152, .ref gq153, .ref gq154, .ref gq155, .ref gq156, .int 0, .ref gq157, .ref gq158, .ref gq159, .int 0, .ref gq160]))] sz) := by
  refine va_MetW (cc := cL_codeLeft) (maxL := 5) (ret := (Option.some Jvm.ClassFile.FieldType.int)) (hh := [(0, 10, 13, 24)]) (by decide) rfl ?_
  intro p e s m args below meth c s₁ B hml hv
  obtain ⟨rfl, hsz, hP, hK, hD0, hE⟩ := hv
  have hx := B.exec
  have hb := B.bytes
  have hr := B.returns
  have hts0 := atoms_spec (ws := wh yL_codeLeft cL_codeLeft 5 (Option.some Jvm.ClassFile.FieldType.int) [(0, 10, 13, 24)]) B.pre
  have htab := vx_table B (hts0 _ List.mem_cons_self)
  have hts : ∀ w ∈ gw, w.before _ s = true := fun w h => hts0 w (List.mem_cons_of_mem _ h)
  have hown : s.vm.findClass RL = some m.cls := findClass_of_methodNamed B.named
  have hlocks := B.notSynchronized
  subst hsz
  have hD := hD0.self (sz := s.heap.size)
  generalize hAe : va_A [(gx, .inr (11, [.ref gq1, .ref gq4, .ref gq13, .ref gq136, .ref gq137, .ref gq138, .ref gq172, .ref gq184, .ref gq150, .ref gq161, .int (-1)])), (gq150, .inr (2, [.int 0, .ref gq151, .ref gq152, .ref gq153, .ref gq154, .ref gq155, .ref gq156, .int 0, .ref gq157, .ref gq158, .ref gq159, .int 0, .ref gq160]))] s.heap.size = A at hD hE ⊢
  have hA : ∀ q : Nat, s.heap.size ≤ q → A q := fun q h => by rw [← hAe]; exact Or.inr h
  have hS : va_S A s.heap s.heap [] := va_S.rf
  have hP : va_P (dC, dI) cls [(gx, .inr (11, [.ref gq1, .ref gq4, .ref gq13, .ref gq136, .ref gq137, .ref gq138, .ref gq172, .ref gq184, .ref gq150, .ref gq161, .int (-1)])), (gq150, .inr (2, [.int 0, .ref gq151, .ref gq152, .ref gq153, .ref gq154, .ref gq155, .ref gq156, .int 0, .ref gq157, .ref gq158, .ref gq159, .int 0, .ref gq160]))] s.heap := hP
  have hl := lv_entry ([.ref gx, .int p0, .int p1, .ref go]) (n := 5) (Nat.le_of_ble_eq_true rfl)
  rw [lg_entry_eq]
  generalize (lg_sl ([.ref gx, .int p0, .int p1, .ref go]) ++ List.replicate (5 - (lg_sl ([.ref gx, .int p0, .int p1, .ref go])).length) Slot.unset).toArray = ls at hl ⊢
  have hl : lv_has ls 5 [(0, .ref gx), (1, .int p0), (2, .int p1), (3, .ref go)] := hl
  refine lv_aload_n hx hb dL_codeLeft_0 rfl (lv_at hl 3 rfl) ?_
  refine lv_iconst (v := 0) hx hb dL_codeLeft_1 (by decide) ?_
  refine lv_aload_n hx hb dL_codeLeft_2 rfl (lv_at hl 0 rfl) ?_
  refine lv_iload_n hx hb dL_codeLeft_3 rfl (lv_at hl 1 rfl) ?_
  refine lv_iload_n hx hb dL_codeLeft_4 rfl (lv_at hl 2 rfl) ?_
  have hPc := hP.sub (ws' := [(gx, .inr (11, [.ref gq1, .ref gq4, .ref gq13, .ref gq136, .ref gq137, .ref gq138, .ref gq172, .ref gq184, .ref gq150, .ref gq161, .int (-1)])), (gq150, .inr (2, [.int 0, .ref gq151, .ref gq152, .ref gq153, .ref gq154, .ref gq155, .ref gq156, .int 0, .ref gq157, .ref gq158, .ref gq159, .int 0, .ref gq160]))]) [0, 1] rfl
  have hDc := hD.sub (ws' := [(gx, .inr (11, [.ref gq1, .ref gq4, .ref gq13, .ref gq136, .ref gq137, .ref gq138, .ref gq172, .ref gq184, .ref gq150, .ref gq161, .int (-1)])), (gq150, .inr (2, [.int 0, .ref gq151, .ref gq152, .ref gq153, .ref gq154, .ref gq155, .ref gq156, .int 0, .ref gq157, .ref gq158, .ref gq159, .int 0, .ref gq160]))]) [0, 1] (by decide) rfl
  have hKc := hK.sub (tys' := []) [] rfl
  have hFc := va_free (wc := [(gx, .inr (11, [.ref gq1, .ref gq4, .ref gq13, .ref gq136, .ref gq137, .ref gq138, .ref gq172, .ref gq184, .ref gq150, .ref gq161, .int (-1)])), (gq150, .inr (2, [.int 0, .ref gq151, .ref gq152, .ref gq153, .ref gq154, .ref gq155, .ref gq156, .int 0, .ref gq157, .ref gq158, .ref gq159, .int 0, .ref gq160]))]) hD hS hA [0, 1] rfl
  refine vx_calli (vx_runV (As := [.int p0, .int p1]) (rest := [.int 0, .ref go]) ⟨hx, hb, hml, hown, hts⟩ (kX11_codeLeft l dC dI (gx := gx) (gq1 := gq1) (gq4 := gq4) (gq13 := gq13) (gq136 := gq136) (gq137 := gq137) (gq138 := gq138) (gq150 := gq150) (gq151 := gq151) (gq152 := gq152) (gq153 := gq153) (gq154 := gq154) (gq155 := gq155) (gq156 := gq156) (gq157 := gq157) (gq158 := gq158) (gq159 := gq159) (gq160 := gq160) (gq161 := gq161) (gq172 := gq172) (gq184 := gq184) (p0 := p0) (p1 := p1) (sz := _) (hl9 := hl9)) (cwV 2 hts (gi_V qw548 qw549 qw550 qw222 (gi_z qw547)) rfl rfl rfl (by decide +kernel) ⟨Nat.le_of_ble_eq_true rfl, Nat.le_of_ble_eq_true rfl⟩) ⟨PRE.blind, va_recv hKc hPc (ci := 11) (q0 := 0) rfl rfl, PRE.of hE hS hFc hPc hKc hDc⟩ rfl rfl hl.1 rfl (lv_room (Nat.le_of_ble_eq_true rfl)) dL_codeLeft_5 ⟨Nat.le_of_ble_eq_true rfl, Nat.le_of_ble_eq_true rfl⟩) hS (fun q _ h => hFc q h) hFc (fun q _ h => hFc q h) (fun E ce q9 u t H locs ht hvm hw hB hz1 hk1 hS hce hcv hcl => ?_) (fun _ u t H locs ht hvm hw hB hz1 hk1 hS => hw.elim)
  obtain ⟨rfl, hB⟩ := hB
  obtain ⟨hP, hD, hK⟩ := JOIN (wr := []) hP hD hK [0, 1] [] [] rfl rfl (by decide) (by decide) rfl hk1 hFc ht hvm hB
  have hP : va_P (dC, dI) cls [] H := hP
  have hD : va_D A [] := hD
  have hK : va_K (dC, dI) cls [] s := hK
  refine vx_widen (k := 1) (n := 6) (Nat.le_of_ble_eq_true rfl) (Nat.le_of_ble_eq_true rfl) ?_
  refine vx_catch (own := RL) (name := "java/lang/IndexOutOfBoundsException") hown [] ⟨0, 10, 13, 24⟩ [] (htab.trans rfl) (fun z hz => by cases hz) (by decide) (by decide) (hts _ qw462) (hE.word (List.mem_append_right _ (tbl_9 (i := 38) rfl)) rfl) hce hcv hcl ?_
  refine lv_astore (lv' := [(4, .ref q9), (0, .ref gx), (1, .int p0), (2, .int p1), (3, .ref go)]) hx hb dL_codeLeft_13 hl (by decide) rfl (fun ls hl => ?_)
  refine lv_iconst (v := 1) hx hb dL_codeLeft_15 (by decide) ?_
  have hP9 : va_P (dC, dI) cls [] H := hP.sub [] rfl
  have hD9 : va_D A [] := hD.sub [] (by decide) rfl
  have hK9 : va_K (dC, dI) cls [] s := hK.sub [] rfl
  exact W.iret (v := 1) hx hb hr (fun t ht hW => ⟨⟨1, (), rfl, rfl, ⟨by rw [ht]; exact hP9, va_K.moved hW.alike hK9, hD9⟩⟩, hS.F ht⟩) hS.2.2 dL_codeLeft_16
set_option maxHeartbeats 4000000 in
set_option maxRecDepth 100000 in
theorem kL_codeRight {zs : Nat × Nat} (l : Launch) (dC : Nat → ClassId) (dI : Nat → Nat → Nat) (gx : Nat) (gq1 : Nat) (gq4 : Nat) (gq13 : Nat) (gq136 : Nat) (gq137 : Nat) (gq138 : Nat) (gq150 : Nat) (gq151 : Nat) (gq152 : Nat) (gq153 : Nat) (gq154 : Nat) (gq155 : Nat) (gq156 : Nat) (gq157 : Nat) (gq158 : Nat) (gq159 : Nat) (gq160 : Nat) (gq161 : Nat) (gq172 : Nat) (gq184 : Nat) (go : Nat) (p0 : Int32) (p1 : Int32) (sz : Nat) (hl9 : l.stackTraces = false)  : Met l yL_codeRight (wh yL_codeRight cL_codeRight 5 (Option.some Jvm.ClassFile.FieldType.int) [(0, 10, 13, 24)]) ({ frames := 9, cells := 1, slots := 6, locals := 165 }) (va_Pc [.ref gx, .int p0, .int p1, .ref go] (PRE zs dC dI [(gx, .inr (11, [.ref gq1, .ref gq4, .ref gq13, .ref gq136, .ref gq137, .ref gq138, .ref gq172, .ref gq184, .ref gq150, .ref gq161, .int (-1)])), (gq150, .inr (2, [.int 0, .ref gq151, .ref gq152, .ref gq153, .ref gq154, .ref gq155, .ref gq156, .int 0, .ref gq157, .ref gq158, .ref gq159, .int 0, .ref gq160]))] [] sz)) (va_Qi (fun (r : Int32) (_ : Unit) => r = 1) (fun _ t => POST dC dI [] [] (va_A [(gx, .inr (11, [.ref gq1, .ref gq4, .ref gq13, .ref gq136, .ref gq137, .ref gq138, .ref gq172, .ref gq184, .ref gq150, .ref gq161, .int (-1)])), (gq150, .inr (2, [.int 0, .ref gq151, .ref gq152, .ref gq153, .ref gq154, .ref gq155, .ref gq156, .int 0, .ref gq157, .ref gq158, .ref gq159, .int 0, .ref gq160]))] sz) t) (va_A [(gx, .inr (11, [.ref gq1, .ref gq4, .ref gq13, .ref gq136, .ref gq137, .ref gq138, .ref gq172, .ref gq184, .ref gq150, .ref gq161, .int (-1)])), (gq150, .inr (2, [.int 0, .ref gq151, .ref gq152, .ref gq153, .ref gq154, .ref gq155, .ref gq156, .int 0, .ref gq157, .ref gq158, .ref gq159, .int 0, .ref gq160]))] sz)) 1 6 (va_A [(gx, .inr (11, [.ref gq1, .ref gq4, .ref gq13, .ref gq136, .ref gq137, .ref gq138, .ref gq172, .ref gq184, .ref gq150, .ref gq161, .int (-1)])), (gq150, .inr (2, [.int 0, .ref gq151, .ref gq152, .ref gq153, .ref gq154, .ref gq155, .ref gq156, .int 0, .ref gq157, .ref gq158, .ref gq159, .int 0, .ref gq160]))] sz) := by
  refine va_MetW (cc := cL_codeRight) (maxL := 5) (ret := (Option.some Jvm.ClassFile.FieldType.int)) (hh := [(0, 10, 13, 24)]) (by decide) rfl ?_
  intro p e s m args below meth c s₁ B hml hv
  obtain ⟨rfl, hsz, hP, hK, hD0, hE⟩ := hv
  have hx := B.exec
  have hb := B.bytes
  have hr := B.returns
  have hts0 := atoms_spec (ws := wh yL_codeRight cL_codeRight 5 (Option.some Jvm.ClassFile.FieldType.int) [(0, 10, 13, 24)]) B.pre
  have htab := vx_table B (hts0 _ List.mem_cons_self)
  have hts : ∀ w ∈ gw, w.before _ s = true := fun w h => hts0 w (List.mem_cons_of_mem _ h)
  have hown : s.vm.findClass RL = some m.cls := findClass_of_methodNamed B.named
  have hlocks := B.notSynchronized
  subst hsz
  have hD := hD0.self (sz := s.heap.size)
  generalize hAe : va_A [(gx, .inr (11, [.ref gq1, .ref gq4, .ref gq13, .ref gq136, .ref gq137, .ref gq138, .ref gq172, .ref gq184, .ref gq150, .ref gq161, .int (-1)])), (gq150, .inr (2, [.int 0, .ref gq151, .ref gq152, .ref gq153, .ref gq154, .ref gq155, .ref gq156, .int 0, .ref gq157, .ref gq158, .ref gq159, .int 0, .ref gq160]))] s.heap.size = A at hD hE ⊢
  have hA : ∀ q : Nat, s.heap.size ≤ q → A q := fun q h => by rw [← hAe]; exact Or.inr h
  have hS : va_S A s.heap s.heap [] := va_S.rf
  have hP : va_P (dC, dI) cls [(gx, .inr (11, [.ref gq1, .ref gq4, .ref gq13, .ref gq136, .ref gq137, .ref gq138, .ref gq172, .ref gq184, .ref gq150, .ref gq161, .int (-1)])), (gq150, .inr (2, [.int 0, .ref gq151, .ref gq152, .ref gq153, .ref gq154, .ref gq155, .ref gq156, .int 0, .ref gq157, .ref gq158, .ref gq159, .int 0, .ref gq160]))] s.heap := hP
  have hl := lv_entry ([.ref gx, .int p0, .int p1, .ref go]) (n := 5) (Nat.le_of_ble_eq_true rfl)
  rw [lg_entry_eq]
  generalize (lg_sl ([.ref gx, .int p0, .int p1, .ref go]) ++ List.replicate (5 - (lg_sl ([.ref gx, .int p0, .int p1, .ref go])).length) Slot.unset).toArray = ls at hl ⊢
  have hl : lv_has ls 5 [(0, .ref gx), (1, .int p0), (2, .int p1), (3, .ref go)] := hl
  refine lv_aload_n hx hb dL_codeRight_0 rfl (lv_at hl 3 rfl) ?_
  refine lv_iconst (v := 0) hx hb dL_codeRight_1 (by decide) ?_
  refine lv_aload_n hx hb dL_codeRight_2 rfl (lv_at hl 0 rfl) ?_
  refine lv_iload_n hx hb dL_codeRight_3 rfl (lv_at hl 1 rfl) ?_
  refine lv_iload_n hx hb dL_codeRight_4 rfl (lv_at hl 2 rfl) ?_
  have hPc := hP.sub (ws' := [(gx, .inr (11, [.ref gq1, .ref gq4, .ref gq13, .ref gq136, .ref gq137, .ref gq138, .ref gq172, .ref gq184, .ref gq150, .ref gq161, .int (-1)])), (gq150, .inr (2, [.int 0, .ref gq151, .ref gq152, .ref gq153, .ref gq154, .ref gq155, .ref gq156, .int 0, .ref gq157, .ref gq158, .ref gq159, .int 0, .ref gq160]))]) [0, 1] rfl
  have hDc := hD.sub (ws' := [(gx, .inr (11, [.ref gq1, .ref gq4, .ref gq13, .ref gq136, .ref gq137, .ref gq138, .ref gq172, .ref gq184, .ref gq150, .ref gq161, .int (-1)])), (gq150, .inr (2, [.int 0, .ref gq151, .ref gq152, .ref gq153, .ref gq154, .ref gq155, .ref gq156, .int 0, .ref gq157, .ref gq158, .ref gq159, .int 0, .ref gq160]))]) [0, 1] (by decide) rfl
  have hKc := hK.sub (tys' := []) [] rfl
  have hFc := va_free (wc := [(gx, .inr (11, [.ref gq1, .ref gq4, .ref gq13, .ref gq136, .ref gq137, .ref gq138, .ref gq172, .ref gq184, .ref gq150, .ref gq161, .int (-1)])), (gq150, .inr (2, [.int 0, .ref gq151, .ref gq152, .ref gq153, .ref gq154, .ref gq155, .ref gq156, .int 0, .ref gq157, .ref gq158, .ref gq159, .int 0, .ref gq160]))]) hD hS hA [0, 1] rfl
  refine vx_calli (vx_runV (As := [.int p0, .int p1]) (rest := [.int 0, .ref go]) ⟨hx, hb, hml, hown, hts⟩ (kX11_codeRight l dC dI (gx := gx) (gq1 := gq1) (gq4 := gq4) (gq13 := gq13) (gq136 := gq136) (gq137 := gq137) (gq138 := gq138) (gq150 := gq150) (gq151 := gq151) (gq152 := gq152) (gq153 := gq153) (gq154 := gq154) (gq155 := gq155) (gq156 := gq156) (gq157 := gq157) (gq158 := gq158) (gq159 := gq159) (gq160 := gq160) (gq161 := gq161) (gq172 := gq172) (gq184 := gq184) (p0 := p0) (p1 := p1) (sz := _) (hl9 := hl9)) (cwV 2 hts (gi_V qw552 qw553 qw554 qw222 (gi_z qw551)) rfl rfl rfl (by decide +kernel) ⟨Nat.le_of_ble_eq_true rfl, Nat.le_of_ble_eq_true rfl⟩) ⟨PRE.blind, va_recv hKc hPc (ci := 11) (q0 := 0) rfl rfl, PRE.of hE hS hFc hPc hKc hDc⟩ rfl rfl hl.1 rfl (lv_room (Nat.le_of_ble_eq_true rfl)) dL_codeRight_5 ⟨Nat.le_of_ble_eq_true rfl, Nat.le_of_ble_eq_true rfl⟩) hS (fun q _ h => hFc q h) hFc (fun q _ h => hFc q h) (fun E ce q9 u t H locs ht hvm hw hB hz1 hk1 hS hce hcv hcl => ?_) (fun _ u t H locs ht hvm hw hB hz1 hk1 hS => hw.elim)
  obtain ⟨rfl, hB⟩ := hB
  obtain ⟨hP, hD, hK⟩ := JOIN (wr := []) hP hD hK [0, 1] [] [] rfl rfl (by decide) (by decide) rfl hk1 hFc ht hvm hB
  have hP : va_P (dC, dI) cls [] H := hP
  have hD : va_D A [] := hD
  have hK : va_K (dC, dI) cls [] s := hK
  refine vx_widen (k := 1) (n := 6) (Nat.le_of_ble_eq_true rfl) (Nat.le_of_ble_eq_true rfl) ?_
  refine vx_catch (own := RL) (name := "java/lang/IndexOutOfBoundsException") hown [] ⟨0, 10, 13, 24⟩ [] (htab.trans rfl) (fun z hz => by cases hz) (by decide) (by decide) (hts _ qw462) (hE.word (List.mem_append_right _ (tbl_9 (i := 38) rfl)) rfl) hce hcv hcl ?_
  refine lv_astore (lv' := [(4, .ref q9), (0, .ref gx), (1, .int p0), (2, .int p1), (3, .ref go)]) hx hb dL_codeRight_13 hl (by decide) rfl (fun ls hl => ?_)
  refine lv_iconst (v := 1) hx hb dL_codeRight_15 (by decide) ?_
  have hP9 : va_P (dC, dI) cls [] H := hP.sub [] rfl
  have hD9 : va_D A [] := hD.sub [] (by decide) rfl
  have hK9 : va_K (dC, dI) cls [] s := hK.sub [] rfl
  exact W.iret (v := 1) hx hb hr (fun t ht hW => ⟨⟨1, (), rfl, rfl, ⟨by rw [ht]; exact hP9, va_K.moved hW.alike hK9, hD9⟩⟩, hS.F ht⟩) hS.2.2 dL_codeRight_16
set_option maxHeartbeats 4000000 in
set_option maxRecDepth 100000 in
theorem kL_slots {zs : Nat × Nat} (l : Launch) (dC : Nat → ClassId) (dI : Nat → Nat → Nat) (gx : Nat) (gq1 : Nat) (gq4 : Nat) (gq13 : Nat) (gq136 : Nat) (gq137 : Nat) (gq138 : Nat) (gq150 : Nat) (gq151 : Nat) (gq152 : Nat) (gq153 : Nat) (gq154 : Nat) (gq155 : Nat) (gq156 : Nat) (gq157 : Nat) (gq158 : Nat) (gq159 : Nat) (gq160 : Nat) (gq161 : Nat) (gq172 : Nat) (gq184 : Nat) (go : Nat) (p0 : Int32) (sz : Nat) (hl9 : l.stackTraces = false)  : Met l yL_slots (wh yL_slots cL_slots 4 (Option.some Jvm.ClassFile.FieldType.int) [(0, 9, 12, 24)]) ({ frames := 8, cells := 1, slots := 6, locals := 142 }) (va_Pc [.ref gx, .int p0, .ref go] (PRE zs dC dI [(gx, .inr (11, [.ref gq1, .ref gq4, .ref gq13, .ref gq136, .ref gq137, .ref gq138, .ref gq172, .ref gq184, .ref gq150, .ref gq161, .int (-1)])), (gq150, .inr (2, [.int 0, .ref gq151, .ref gq152, .ref gq153, .ref gq154, .ref gq155, .ref gq156, .int 0, .ref gq157, .ref gq158, .ref gq159, .int 0, .ref gq160]))] [] sz)) (va_Qi (fun (r : Int32) (_ : Unit) => r = 1) (fun _ t => POST dC dI [] [] (va_A [(gx, .inr (11, [.ref gq1, .ref gq4, .ref gq13, .ref gq136, .ref gq137, .ref gq138, .ref gq172, .ref gq184, .ref gq150, .ref gq161, .int (-1)])), (gq150, .inr (2, [.int 0, .ref gq151, .ref gq152, .ref gq153, .ref gq154, .ref gq155, .ref gq156, .int 0, .ref gq157, .ref gq158, .ref gq159, .int 0, .ref gq160]))] sz) t) (va_A [(gx, .inr (11, [.ref gq1, .ref gq4, .ref gq13, .ref gq136, .ref gq137, .ref gq138, .ref gq172, .ref gq184, .ref gq150, .ref gq161, .int (-1)])), (gq150, .inr (2, [.int 0, .ref gq151, .ref gq152, .ref gq153, .ref gq154, .ref gq155, .ref gq156, .int 0, .ref gq157, .ref gq158, .ref gq159, .int 0, .ref gq160]))] sz)) 1 6 (va_A [(gx, .inr (11, [.ref gq1, .ref gq4, .ref gq13, .ref gq136, .ref gq137, .ref gq138, .ref gq172, .ref gq184, .ref gq150, .ref gq161, .int (-1)])), (gq150, .inr (2, [.int 0, .ref gq151, .ref gq152, .ref gq153, .ref gq154, .ref gq155, .ref gq156, .int 0, .ref gq157, .ref gq158, .ref gq159, .int 0, .ref gq160]))] sz) := by
  refine va_MetW (cc := cL_slots) (maxL := 4) (ret := (Option.some Jvm.ClassFile.FieldType.int)) (hh := [(0, 9, 12, 24)]) (by decide) rfl ?_
  intro p e s m args below meth c s₁ B hml hv
  obtain ⟨rfl, hsz, hP, hK, hD0, hE⟩ := hv
  have hx := B.exec
  have hb := B.bytes
  have hr := B.returns
  have hts0 := atoms_spec (ws := wh yL_slots cL_slots 4 (Option.some Jvm.ClassFile.FieldType.int) [(0, 9, 12, 24)]) B.pre
  have htab := vx_table B (hts0 _ List.mem_cons_self)
  have hts : ∀ w ∈ gw, w.before _ s = true := fun w h => hts0 w (List.mem_cons_of_mem _ h)
  have hown : s.vm.findClass RL = some m.cls := findClass_of_methodNamed B.named
  have hlocks := B.notSynchronized
  subst hsz
  have hD := hD0.self (sz := s.heap.size)
  generalize hAe : va_A [(gx, .inr (11, [.ref gq1, .ref gq4, .ref gq13, .ref gq136, .ref gq137, .ref gq138, .ref gq172, .ref gq184, .ref gq150, .ref gq161, .int (-1)])), (gq150, .inr (2, [.int 0, .ref gq151, .ref gq152, .ref gq153, .ref gq154, .ref gq155, .ref gq156, .int 0, .ref gq157, .ref gq158, .ref gq159, .int 0, .ref gq160]))] s.heap.size = A at hD hE ⊢
  have hA : ∀ q : Nat, s.heap.size ≤ q → A q := fun q h => by rw [← hAe]; exact Or.inr h
  have hS : va_S A s.heap s.heap [] := va_S.rf
  have hP : va_P (dC, dI) cls [(gx, .inr (11, [.ref gq1, .ref gq4, .ref gq13, .ref gq136, .ref gq137, .ref gq138, .ref gq172, .ref gq184, .ref gq150, .ref gq161, .int (-1)])), (gq150, .inr (2, [.int 0, .ref gq151, .ref gq152, .ref gq153, .ref gq154, .ref gq155, .ref gq156, .int 0, .ref gq157, .ref gq158, .ref gq159, .int 0, .ref gq160]))] s.heap := hP
  have hl := lv_entry ([.ref gx, .int p0, .ref go]) (n := 4) (Nat.le_of_ble_eq_true rfl)
  rw [lg_entry_eq]
  generalize (lg_sl ([.ref gx, .int p0, .ref go]) ++ List.replicate (4 - (lg_sl ([.ref gx, .int p0, .ref go])).length) Slot.unset).toArray = ls at hl ⊢
  have hl : lv_has ls 4 [(0, .ref gx), (1, .int p0), (2, .ref go)] := hl
  refine lv_aload_n hx hb dL_slots_0 rfl (lv_at hl 2 rfl) ?_
  refine lv_iconst (v := 0) hx hb dL_slots_1 (by decide) ?_
  refine lv_aload_n hx hb dL_slots_2 rfl (lv_at hl 0 rfl) ?_
  refine lv_iload_n hx hb dL_slots_3 rfl (lv_at hl 1 rfl) ?_
  have hPc := hP.sub (ws' := [(gx, .inr (11, [.ref gq1, .ref gq4, .ref gq13, .ref gq136, .ref gq137, .ref gq138, .ref gq172, .ref gq184, .ref gq150, .ref gq161, .int (-1)])), (gq150, .inr (2, [.int 0, .ref gq151, .ref gq152, .ref gq153, .ref gq154, .ref gq155, .ref gq156, .int 0, .ref gq157, .ref gq158, .ref gq159, .int 0, .ref gq160]))]) [0, 1] rfl
  have hDc := hD.sub (ws' := [(gx, .inr (11, [.ref gq1, .ref gq4, .ref gq13, .ref gq136, .ref gq137, .ref gq138, .ref gq172, .ref gq184, .ref gq150, .ref gq161, .int (-1)])), (gq150, .inr (2, [.int 0, .ref gq151, .ref gq152, .ref gq153, .ref gq154, .ref gq155, .ref gq156, .int 0, .ref gq157, .ref gq158, .ref gq159, .int 0, .ref gq160]))]) [0, 1] (by decide) rfl
  have hKc := hK.sub (tys' := []) [] rfl
  have hFc := va_free (wc := [(gx, .inr (11, [.ref gq1, .ref gq4, .ref gq13, .ref gq136, .ref gq137, .ref gq138, .ref gq172, .ref gq184, .ref gq150, .ref gq161, .int (-1)])), (gq150, .inr (2, [.int 0, .ref gq151, .ref gq152, .ref gq153, .ref gq154, .ref gq155, .ref gq156, .int 0, .ref gq157, .ref gq158, .ref gq159, .int 0, .ref gq160]))]) hD hS hA [0, 1] rfl
  refine vx_calli (vx_runV (As := [.int p0]) (rest := [.int 0, .ref go]) ⟨hx, hb, hml, hown, hts⟩ (kX11_slots l dC dI (gx := gx) (gq1 := gq1) (gq4 := gq4) (gq13 := gq13) (gq136 := gq136) (gq137 := gq137) (gq138 := gq138) (gq150 := gq150) (gq151 := gq151) (gq152 := gq152) (gq153 := gq153) (gq154 := gq154) (gq155 := gq155) (gq156 := gq156) (gq157 := gq157) (gq158 := gq158) (gq159 := gq159) (gq160 := gq160) (gq161 := gq161) (gq172 := gq172) (gq184 := gq184) (p0 := p0) (sz := _) (hl9 := hl9)) (cwV 1 hts (gi_V qw556 qw557 qw558 qw222 (gi_z qw555)) rfl rfl rfl (by decide +kernel) ⟨Nat.le_of_ble_eq_true rfl, Nat.le_of_ble_eq_true rfl⟩) ⟨PRE.blind, va_recv hKc hPc (ci := 11) (q0 := 0) rfl rfl, PRE.of hE hS hFc hPc hKc hDc⟩ rfl rfl hl.1 rfl (lv_room (Nat.le_of_ble_eq_true rfl)) dL_slots_4 ⟨Nat.le_of_ble_eq_true rfl, Nat.le_of_ble_eq_true rfl⟩) hS (fun q _ h => hFc q h) hFc (fun q _ h => hFc q h) (fun E ce q9 u t H locs ht hvm hw hB hz1 hk1 hS hce hcv hcl => ?_) (fun _ u t H locs ht hvm hw hB hz1 hk1 hS => hw.elim)
  obtain ⟨rfl, hB⟩ := hB
  obtain ⟨hP, hD, hK⟩ := JOIN (wr := []) hP hD hK [0, 1] [] [] rfl rfl (by decide) (by decide) rfl hk1 hFc ht hvm hB
  have hP : va_P (dC, dI) cls [] H := hP
  have hD : va_D A [] := hD
  have hK : va_K (dC, dI) cls [] s := hK
  refine vx_widen (k := 1) (n := 6) (Nat.le_of_ble_eq_true rfl) (Nat.le_of_ble_eq_true rfl) ?_
  refine vx_catch (own := RL) (name := "java/lang/IndexOutOfBoundsException") hown [] ⟨0, 9, 12, 24⟩ [] (htab.trans rfl) (fun z hz => by cases hz) (by decide) (by decide) (hts _ qw462) (hE.word (List.mem_append_right _ (tbl_9 (i := 38) rfl)) rfl) hce hcv hcl ?_
  refine lv_astore_n (lv' := [(3, .ref q9), (0, .ref gx), (1, .int p0), (2, .ref go)]) hx hb dL_slots_12 rfl hl (by decide) rfl (fun ls hl => ?_)
  refine lv_iconst (v := 1) hx hb dL_slots_13 (by decide) ?_
  have hP9 : va_P (dC, dI) cls [] H := hP.sub [] rfl
  have hD9 : va_D A [] := hD.sub [] (by decide) rfl
  have hK9 : va_K (dC, dI) cls [] s := hK.sub [] rfl
  exact W.iret (v := 1) hx hb hr (fun t ht hW => ⟨⟨1, (), rfl, rfl, ⟨by rw [ht]; exact hP9, va_K.moved hW.alike hK9, hD9⟩⟩, hS.F ht⟩) hS.2.2 dL_slots_14
set_option maxHeartbeats 4000000 in
set_option maxRecDepth 100000 in
theorem kL_united {zs : Nat × Nat} (l : Launch) (dC : Nat → ClassId) (dI : Nat → Nat → Nat) (gx : Nat) (gq1 : Nat) (gq4 : Nat) (gq13 : Nat) (gq136 : Nat) (gq137 : Nat) (gq138 : Nat) (gq150 : Nat) (gq151 : Nat) (gq152 : Nat) (gq153 : Nat) (gq154 : Nat) (gq155 : Nat) (gq156 : Nat) (gq157 : Nat) (gq158 : Nat) (gq159 : Nat) (gq160 : Nat) (gq161 : Nat) (gq172 : Nat) (gq184 : Nat) (go : Nat) (p0 : Int32) (sz : Nat) (hl9 : l.stackTraces = false)  : Met l yL_united (wh yL_united cL_united 4 (Option.some Jvm.ClassFile.FieldType.int) [(0, 9, 12, 24)]) ({ frames := 8, cells := 1, slots := 6, locals := 142 }) (va_Pc [.ref gx, .int p0, .ref go] (PRE zs dC dI [(gx, .inr (11, [.ref gq1, .ref gq4, .ref gq13, .ref gq136, .ref gq137, .ref gq138, .ref gq172, .ref gq184, .ref gq150, .ref gq161, .int (-1)])), (gq150, .inr (2, [.int 0, .ref gq151, .ref gq152, .ref gq153, .ref gq154, .ref gq155, .ref gq156, .int 0, .ref gq157, .ref gq158, .ref gq159, .int 0, .ref gq160]))] [] sz)) (va_Qi (fun (r : Int32) (_ : Unit) => r = 1) (fun _ t => POST dC dI [] [] (va_A [(gx, .inr (11, [.ref gq1, .ref gq4, .ref gq13, .ref gq136, .ref gq137, .ref gq138, .ref gq172, .ref gq184, .ref gq150, .ref gq161, .int (-1)])), (gq150, .inr (2, [.int 0, .ref gq151, .ref gq152, .ref gq153, .ref gq154, .ref gq155, .ref gq156, .int 0, .ref gq157, .ref gq158, .ref gq159, .int 0, .ref gq160]))] sz) t) (va_A [(gx, .inr (11, [.ref gq1, .ref gq4, .ref gq13, .ref gq136, .ref gq137, .ref gq138, .ref gq172, .ref gq184, .ref gq150, .ref gq161, .int (-1)])), (gq150, .inr (2, [.int 0, .ref gq151, .ref gq152, .ref gq153, .ref gq154, .ref gq155, .ref gq156, .int 0, .ref gq157, .ref gq158, .ref gq159, .int 0, .ref gq160]))] sz)) 1 6 (va_A [(gx, .inr (11, [.ref gq1, .ref gq4, .ref gq13, .ref gq136, .ref gq137, .ref gq138, .ref gq172, .ref gq184, .ref gq150, .ref gq161, .int (-1)])), (gq150, .inr (2, [.int 0, .ref gq151, .ref gq152, .ref gq153, .ref gq154, .ref gq155, .ref gq156, .int 0, .ref gq157, .ref gq158, .ref gq159, .int 0, .ref gq160]))] sz) := by
  refine va_MetW (cc := cL_united) (maxL := 4) (ret := (Option.some Jvm.ClassFile.FieldType.int)) (hh := [(0, 9, 12, 24)]) (by decide) rfl ?_
  intro p e s m args below meth c s₁ B hml hv
  obtain ⟨rfl, hsz, hP, hK, hD0, hE⟩ := hv
  have hx := B.exec
  have hb := B.bytes
  have hr := B.returns
  have hts0 := atoms_spec (ws := wh yL_united cL_united 4 (Option.some Jvm.ClassFile.FieldType.int) [(0, 9, 12, 24)]) B.pre
  have htab := vx_table B (hts0 _ List.mem_cons_self)
  have hts : ∀ w ∈ gw, w.before _ s = true := fun w h => hts0 w (List.mem_cons_of_mem _ h)
  have hown : s.vm.findClass RL = some m.cls := findClass_of_methodNamed B.named
  have hlocks := B.notSynchronized
  subst hsz
  have hD := hD0.self (sz := s.heap.size)
  generalize hAe : va_A [(gx, .inr (11, [.ref gq1, .ref gq4, .ref gq13, .ref gq136, .ref gq137, .ref gq138, .ref gq172, .ref gq184, .ref gq150, .ref gq161, .int (-1)])), (gq150, .inr (2, [.int 0, .ref gq151, .ref gq152, .ref gq153, .ref gq154, .ref gq155, .ref gq156, .int 0, .ref gq157, .ref gq158, .ref gq159, .int 0, .ref gq160]))] s.heap.size = A at hD hE ⊢
  have hA : ∀ q : Nat, s.heap.size ≤ q → A q := fun q h => by rw [← hAe]; exact Or.inr h
  have hS : va_S A s.heap s.heap [] := va_S.rf
  have hP : va_P (dC, dI) cls [(gx, .inr (11, [.ref gq1, .ref gq4, .ref gq13, .ref gq136, .ref gq137, .ref gq138, .ref gq172, .ref gq184, .ref gq150, .ref gq161, .int (-1)])), (gq150, .inr (2, [.int 0, .ref gq151, .ref gq152, .ref gq153, .ref gq154, .ref gq155, .ref gq156, .int 0, .ref gq157, .ref gq158, .ref gq159, .int 0, .ref gq160]))] s.heap := hP
  have hl := lv_entry ([.ref gx, .int p0, .ref go]) (n := 4) (Nat.le_of_ble_eq_true rfl)
  rw [lg_entry_eq]
  generalize (lg_sl ([.ref gx, .int p0, .ref go]) ++ List.replicate (4 - (lg_sl ([.ref gx, .int p0, .ref go])).length) Slot.unset).toArray = ls at hl ⊢
  have hl : lv_has ls 4 [(0, .ref gx), (1, .int p0), (2, .ref go)] := hl
  refine lv_aload_n hx hb dL_united_0 rfl (lv_at hl 2 rfl) ?_
  refine lv_iconst (v := 0) hx hb dL_united_1 (by decide) ?_
  refine lv_aload_n hx hb dL_united_2 rfl (lv_at hl 0 rfl) ?_
  refine lv_iload_n hx hb dL_united_3 rfl (lv_at hl 1 rfl) ?_
  have hPc := hP.sub (ws' := [(gx, .inr (11, [.ref gq1, .ref gq4, .ref gq13, .ref gq136, .ref gq137, .ref gq138, .ref gq172, .ref gq184, .ref gq150, .ref gq161, .int (-1)])), (gq150, .inr (2, [.int 0, .ref gq151, .ref gq152, .ref gq153, .ref gq154, .ref gq155, .ref gq156, .int 0, .ref gq157, .ref gq158, .ref gq159, .int 0, .ref gq160]))]) [0, 1] rfl
  have hDc := hD.sub (ws' := [(gx, .inr (11, [.ref gq1, .ref gq4, .ref gq13, .ref gq136, .ref gq137, .ref gq138, .ref gq172, .ref gq184, .ref gq150, .ref gq161, .int (-1)])), (gq150, .inr (2, [.int 0, .ref gq151, .ref gq152, .ref gq153, .ref gq154, .ref gq155, .ref gq156, .int 0, .ref gq157, .ref gq158, .ref gq159, .int 0, .ref gq160]))]) [0, 1] (by decide) rfl
  have hKc := hK.sub (tys' := []) [] rfl
  have hFc := va_free (wc := [(gx, .inr (11, [.ref gq1, .ref gq4, .ref gq13, .ref gq136, .ref gq137, .ref gq138, .ref gq172, .ref gq184, .ref gq150, .ref gq161, .int (-1)])), (gq150, .inr (2, [.int 0, .ref gq151, .ref gq152, .ref gq153, .ref gq154, .ref gq155, .ref gq156, .int 0, .ref gq157, .ref gq158, .ref gq159, .int 0, .ref gq160]))]) hD hS hA [0, 1] rfl
  refine vx_calli (vx_runV (As := [.int p0]) (rest := [.int 0, .ref go]) ⟨hx, hb, hml, hown, hts⟩ (kX11_united l dC dI (gx := gx) (gq1 := gq1) (gq4 := gq4) (gq13 := gq13) (gq136 := gq136) (gq137 := gq137) (gq138 := gq138) (gq150 := gq150) (gq151 := gq151) (gq152 := gq152) (gq153 := gq153) (gq154 := gq154) (gq155 := gq155) (gq156 := gq156) (gq157 := gq157) (gq158 := gq158) (gq159 := gq159) (gq160 := gq160) (gq161 := gq161) (gq172 := gq172) (gq184 := gq184) (p0 := p0) (sz := _) (hl9 := hl9)) (cwV 1 hts (gi_V qw560 qw561 qw562 qw222 (gi_z qw559)) rfl rfl rfl (by decide +kernel) ⟨Nat.le_of_ble_eq_true rfl, Nat.le_of_ble_eq_true rfl⟩) ⟨PRE.blind, va_recv hKc hPc (ci := 11) (q0 := 0) rfl rfl, PRE.of hE hS hFc hPc hKc hDc⟩ rfl rfl hl.1 rfl (lv_room (Nat.le_of_ble_eq_true rfl)) dL_united_4 ⟨Nat.le_of_ble_eq_true rfl, Nat.le_of_ble_eq_true rfl⟩) hS (fun q _ h => hFc q h) hFc (fun q _ h => hFc q h) (fun E ce q9 u t H locs ht hvm hw hB hz1 hk1 hS hce hcv hcl => ?_) (fun _ u t H locs ht hvm hw hB hz1 hk1 hS => hw.elim)
  obtain ⟨rfl, hB⟩ := hB
  obtain ⟨hP, hD, hK⟩ := JOIN (wr := []) hP hD hK [0, 1] [] [] rfl rfl (by decide) (by decide) rfl hk1 hFc ht hvm hB
  have hP : va_P (dC, dI) cls [] H := hP
  have hD : va_D A [] := hD
  have hK : va_K (dC, dI) cls [] s := hK
  refine vx_widen (k := 1) (n := 6) (Nat.le_of_ble_eq_true rfl) (Nat.le_of_ble_eq_true rfl) ?_
  refine vx_catch (own := RL) (name := "java/lang/IndexOutOfBoundsException") hown [] ⟨0, 9, 12, 24⟩ [] (htab.trans rfl) (fun z hz => by cases hz) (by decide) (by decide) (hts _ qw462) (hE.word (List.mem_append_right _ (tbl_9 (i := 38) rfl)) rfl) hce hcv hcl ?_
  refine lv_astore_n (lv' := [(3, .ref q9), (0, .ref gx), (1, .int p0), (2, .ref go)]) hx hb dL_united_12 rfl hl (by decide) rfl (fun ls hl => ?_)
  refine lv_iconst (v := 1) hx hb dL_united_13 (by decide) ?_
  have hP9 : va_P (dC, dI) cls [] H := hP.sub [] rfl
  have hD9 : va_D A [] := hD.sub [] (by decide) rfl
  have hK9 : va_K (dC, dI) cls [] s := hK.sub [] rfl
  exact W.iret (v := 1) hx hb hr (fun t ht hW => ⟨⟨1, (), rfl, rfl, ⟨by rw [ht]; exact hP9, va_K.moved hW.alike hK9, hD9⟩⟩, hS.F ht⟩) hS.2.2 dL_united_14
set_option maxHeartbeats 4000000 in
set_option maxRecDepth 100000 in
theorem kL_rounds {zs : Nat × Nat} (l : Launch) (dC : Nat → ClassId) (dI : Nat → Nat → Nat) (gx : Nat) (gq1 : Nat) (gq4 : Nat) (gq13 : Nat) (gq136 : Nat) (gq137 : Nat) (gq138 : Nat) (gq150 : Nat) (gq151 : Nat) (gq152 : Nat) (gq153 : Nat) (gq154 : Nat) (gq155 : Nat) (gq156 : Nat) (gq157 : Nat) (gq158 : Nat) (gq159 : Nat) (gq160 : Nat) (gq161 : Nat) (gq172 : Nat) (gq184 : Nat) (go : Nat) (p0 : Int32) (sz : Nat) (hl9 : l.stackTraces = false)  : Met l yL_rounds (wh yL_rounds cL_rounds 4 (Option.some Jvm.ClassFile.FieldType.int) [(0, 9, 12, 24)]) ({ frames := 8, cells := 1, slots := 6, locals := 142 }) (va_Pc [.ref gx, .int p0, .ref go] (PRE zs dC dI [(gx, .inr (11, [.ref gq1, .ref gq4, .ref gq13, .ref gq136, .ref gq137, .ref gq138, .ref gq172, .ref gq184, .ref gq150, .ref gq161, .int (-1)])), (gq150, .inr (2, [.int 0, .ref gq151, .ref gq152, .ref gq153, .ref gq154, .ref gq155, .ref gq156, .int 0, .ref gq157, .ref gq158, .ref gq159, .int 0, .ref gq160]))] [] sz)) (va_Qi (fun (r : Int32) (_ : Unit) => r = 1) (fun _ t => POST dC dI [] [] (va_A [(gx, .inr (11, [.ref gq1, .ref gq4, .ref gq13, .ref gq136, .ref gq137, .ref gq138, .ref gq172, .ref gq184, .ref gq150, .ref gq161, .int (-1)])), (gq150, .inr (2, [.int 0, .ref gq151, .ref gq152, .ref gq153, .ref gq154, .ref gq155, .ref gq156, .int 0, .ref gq157, .ref gq158, .ref gq159, .int 0, .ref gq160]))] sz) t) (va_A [(gx, .inr (11, [.ref gq1, .ref gq4, .ref gq13, .ref gq136, .ref gq137, .ref gq138, .ref gq172, .ref gq184, .ref gq150, .ref gq161, .int (-1)])), (gq150, .inr (2, [.int 0, .ref gq151, .ref gq152, .ref gq153, .ref gq154, .ref gq155, .ref gq156, .int 0, .ref gq157, .ref gq158, .ref gq159, .int 0, .ref gq160]))] sz)) 1 6 (va_A [(gx, .inr (11, [.ref gq1, .ref gq4, .ref gq13, .ref gq136, .ref gq137, .ref gq138, .ref gq172, .ref gq184, .ref gq150, .ref gq161, .int (-1)])), (gq150, .inr (2, [.int 0, .ref gq151, .ref gq152, .ref gq153, .ref gq154, .ref gq155, .ref gq156, .int 0, .ref gq157, .ref gq158, .ref gq159, .int 0, .ref gq160]))] sz) := by
  refine va_MetW (cc := cL_rounds) (maxL := 4) (ret := (Option.some Jvm.ClassFile.FieldType.int)) (hh := [(0, 9, 12, 24)]) (by decide) rfl ?_
  intro p e s m args below meth c s₁ B hml hv
  obtain ⟨rfl, hsz, hP, hK, hD0, hE⟩ := hv
  have hx := B.exec
  have hb := B.bytes
  have hr := B.returns
  have hts0 := atoms_spec (ws := wh yL_rounds cL_rounds 4 (Option.some Jvm.ClassFile.FieldType.int) [(0, 9, 12, 24)]) B.pre
  have htab := vx_table B (hts0 _ List.mem_cons_self)
  have hts : ∀ w ∈ gw, w.before _ s = true := fun w h => hts0 w (List.mem_cons_of_mem _ h)
  have hown : s.vm.findClass RL = some m.cls := findClass_of_methodNamed B.named
  have hlocks := B.notSynchronized
  subst hsz
  have hD := hD0.self (sz := s.heap.size)
  generalize hAe : va_A [(gx, .inr (11, [.ref gq1, .ref gq4, .ref gq13, .ref gq136, .ref gq137, .ref gq138, .ref gq172, .ref gq184, .ref gq150, .ref gq161, .int (-1)])), (gq150, .inr (2, [.int 0, .ref gq151, .ref gq152, .ref gq153, .ref gq154, .ref gq155, .ref gq156, .int 0, .ref gq157, .ref gq158, .ref gq159, .int 0, .ref gq160]))] s.heap.size = A at hD hE ⊢
  have hA : ∀ q : Nat, s.heap.size ≤ q → A q := fun q h => by rw [← hAe]; exact Or.inr h
  have hS : va_S A s.heap s.heap [] := va_S.rf
  have hP : va_P (dC, dI) cls [(gx, .inr (11, [.ref gq1, .ref gq4, .ref gq13, .ref gq136, .ref gq137, .ref gq138, .ref gq172, .ref gq184, .ref gq150, .ref gq161, .int (-1)])), (gq150, .inr (2, [.int 0, .ref gq151, .ref gq152, .ref gq153, .ref gq154, .ref gq155, .ref gq156, .int 0, .ref gq157, .ref gq158, .ref gq159, .int 0, .ref gq160]))] s.heap := hP
  have hl := lv_entry ([.ref gx, .int p0, .ref go]) (n := 4) (Nat.le_of_ble_eq_true rfl)
  rw [lg_entry_eq]
  generalize (lg_sl ([.ref gx, .int p0, .ref go]) ++ List.replicate (4 - (lg_sl ([.ref gx, .int p0, .ref go])).length) Slot.unset).toArray = ls at hl ⊢
  have hl : lv_has ls 4 [(0, .ref gx), (1, .int p0), (2, .ref go)] := hl
  refine lv_aload_n hx hb dL_rounds_0 rfl (lv_at hl 2 rfl) ?_
  refine lv_iconst (v := 0) hx hb dL_rounds_1 (by decide) ?_
  refine lv_aload_n hx hb dL_rounds_2 rfl (lv_at hl 0 rfl) ?_
  refine lv_iload_n hx hb dL_rounds_3 rfl (lv_at hl 1 rfl) ?_
  have hPc := hP.sub (ws' := [(gx, .inr (11, [.ref gq1, .ref gq4, .ref gq13, .ref gq136, .ref gq137, .ref gq138, .ref gq172, .ref gq184, .ref gq150, .ref gq161, .int (-1)])), (gq150, .inr (2, [.int 0, .ref gq151, .ref gq152, .ref gq153, .ref gq154, .ref gq155, .ref gq156, .int 0, .ref gq157, .ref gq158, .ref gq159, .int 0, .ref gq160]))]) [0, 1] rfl
  have hDc := hD.sub (ws' := [(gx, .inr (11, [.ref gq1, .ref gq4, .ref gq13, .ref gq136, .ref gq137, .ref gq138, .ref gq172, .ref gq184, .ref gq150, .ref gq161, .int (-1)])), (gq150, .inr (2, [.int 0, .ref gq151, .ref gq152, .ref gq153, .ref gq154, .ref gq155, .ref gq156, .int 0, .ref gq157, .ref gq158, .ref gq159, .int 0, .ref gq160]))]) [0, 1] (by decide) rfl
  have hKc := hK.sub (tys' := []) [] rfl
  have hFc := va_free (wc := [(gx, .inr (11, [.ref gq1, .ref gq4, .ref gq13, .ref gq136, .ref gq137, .ref gq138, .ref gq172, .ref gq184, .ref gq150, .ref gq161, .int (-1)])), (gq150, .inr (2, [.int 0, .ref gq151, .ref gq152, .ref gq153, .ref gq154, .ref gq155, .ref gq156, .int 0, .ref gq157, .ref gq158, .ref gq159, .int 0, .ref gq160]))]) hD hS hA [0, 1] rfl
  refine vx_calli (vx_runV (As := [.int p0]) (rest := [.int 0, .ref go]) ⟨hx, hb, hml, hown, hts⟩ (kX11_rounds l dC dI (gx := gx) (gq1 := gq1) (gq4 := gq4) (gq13 := gq13) (gq136 := gq136) (gq137 := gq137) (gq138 := gq138) (gq150 := gq150) (gq151 := gq151) (gq152 := gq152) (gq153 := gq153) (gq154 := gq154) (gq155 := gq155) (gq156 := gq156) (gq157 := gq157) (gq158 := gq158) (gq159 := gq159) (gq160 := gq160) (gq161 := gq161) (gq172 := gq172) (gq184 := gq184) (p0 := p0) (sz := _) (hl9 := hl9)) (cwV 1 hts (gi_V qw564 qw565 qw566 qw222 (gi_z qw563)) rfl rfl rfl (by decide +kernel) ⟨Nat.le_of_ble_eq_true rfl, Nat.le_of_ble_eq_true rfl⟩) ⟨PRE.blind, va_recv hKc hPc (ci := 11) (q0 := 0) rfl rfl, PRE.of hE hS hFc hPc hKc hDc⟩ rfl rfl hl.1 rfl (lv_room (Nat.le_of_ble_eq_true rfl)) dL_rounds_4 ⟨Nat.le_of_ble_eq_true rfl, Nat.le_of_ble_eq_true rfl⟩) hS (fun q _ h => hFc q h) hFc (fun q _ h => hFc q h) (fun E ce q9 u t H locs ht hvm hw hB hz1 hk1 hS hce hcv hcl => ?_) (fun _ u t H locs ht hvm hw hB hz1 hk1 hS => hw.elim)
  obtain ⟨rfl, hB⟩ := hB
  obtain ⟨hP, hD, hK⟩ := JOIN (wr := []) hP hD hK [0, 1] [] [] rfl rfl (by decide) (by decide) rfl hk1 hFc ht hvm hB
  have hP : va_P (dC, dI) cls [] H := hP
  have hD : va_D A [] := hD
  have hK : va_K (dC, dI) cls [] s := hK
  refine vx_widen (k := 1) (n := 6) (Nat.le_of_ble_eq_true rfl) (Nat.le_of_ble_eq_true rfl) ?_
  refine vx_catch (own := RL) (name := "java/lang/IndexOutOfBoundsException") hown [] ⟨0, 9, 12, 24⟩ [] (htab.trans rfl) (fun z hz => by cases hz) (by decide) (by decide) (hts _ qw462) (hE.word (List.mem_append_right _ (tbl_9 (i := 38) rfl)) rfl) hce hcv hcl ?_
  refine lv_astore_n (lv' := [(3, .ref q9), (0, .ref gx), (1, .int p0), (2, .ref go)]) hx hb dL_rounds_12 rfl hl (by decide) rfl (fun ls hl => ?_)
  refine lv_iconst (v := 1) hx hb dL_rounds_13 (by decide) ?_
  have hP9 : va_P (dC, dI) cls [] H := hP.sub [] rfl
  have hD9 : va_D A [] := hD.sub [] (by decide) rfl
  have hK9 : va_K (dC, dI) cls [] s := hK.sub [] rfl
  exact W.iret (v := 1) hx hb hr (fun t ht hW => ⟨⟨1, (), rfl, rfl, ⟨by rw [ht]; exact hP9, va_K.moved hW.alike hK9, hD9⟩⟩, hS.F ht⟩) hS.2.2 dL_rounds_14
set_option maxHeartbeats 4000000 in
set_option maxRecDepth 100000 in
theorem kL_run {zs : Nat × Nat} (l : Launch) (dC : Nat → ClassId) (dI : Nat → Nat → Nat) (gx : Nat) (gq1 : Nat) (gq4 : Nat) (gq13 : Nat) (gq136 : Nat) (gq137 : Nat) (gq138 : Nat) (gq150 : Nat) (gq151 : Nat) (gq152 : Nat) (gq153 : Nat) (gq154 : Nat) (gq155 : Nat) (gq156 : Nat) (gq157 : Nat) (gq158 : Nat) (gq159 : Nat) (gq160 : Nat) (gq161 : Nat) (gq172 : Nat) (gq184 : Nat) (go : Nat) (p0 : Int32) (p1 : Int32) (p2 : Int32) (p3 : Int32) (p4 : Int32) (p5 : Int32) (sz : Nat) (hl9 : l.stackTraces = false)  : Met l yL_run (wh yL_run cL_run 9 (Option.some Jvm.ClassFile.FieldType.int) [(0, 18, 21, 24), (0, 18, 25, 19), (0, 18, 29, 13)]) ({ frames := 8, cells := 1, slots := 6, locals := 147 }) (va_Pc [.ref gx, .int p0, .int p1, .int p2, .int p3, .int p4, .int p5, .ref go] (PRE zs dC dI [(gx, .inr (11, [.ref gq1, .ref gq4, .ref gq13, .ref gq136, .ref gq137, .ref gq138, .ref gq172, .ref gq184, .ref gq150, .ref gq161, .int (-1)])), (gq150, .inr (2, [.int 0, .ref gq151, .ref gq152, .ref gq153, .ref gq154, .ref gq155, .ref gq156, .int 0, .ref gq157, .ref gq158, .ref gq159, .int 0, .ref gq160]))] [] sz)) (va_Qi (fun (r : Int32) (_ : Unit) => r = 1) (fun _ t => POST dC dI [] [] (va_A [(gx, .inr (11, [.ref gq1, .ref gq4, .ref gq13, .ref gq136, .ref gq137, .ref gq138, .ref gq172, .ref gq184, .ref gq150, .ref gq161, .int (-1)])), (gq150, .inr (2, [.int 0, .ref gq151, .ref gq152, .ref gq153, .ref gq154, .ref gq155, .ref gq156, .int 0, .ref gq157, .ref gq158, .ref gq159, .int 0, .ref gq160]))] sz) t) (va_A [(gx, .inr (11, [.ref gq1, .ref gq4, .ref gq13, .ref gq136, .ref gq137, .ref gq138, .ref gq172, .ref gq184, .ref gq150, .ref gq161, .int (-1)])), (gq150, .inr (2, [.int 0, .ref gq151, .ref gq152, .ref gq153, .ref gq154, .ref gq155, .ref gq156, .int 0, .ref gq157, .ref gq158, .ref gq159, .int 0, .ref gq160]))] sz)) 1 6 (va_A [(gx, .inr (11, [.ref gq1, .ref gq4, .ref gq13, .ref gq136, .ref gq137, .ref gq138, .ref gq172, .ref gq184, .ref gq150, .ref gq161, .int (-1)])), (gq150, .inr (2, [.int 0, .ref gq151, .ref gq152, .ref gq153, .ref gq154, .ref gq155, .ref gq156, .int 0, .ref gq157, .ref gq158, .ref gq159, .int 0, .ref gq160]))] sz) := by
  refine va_MetW (cc := cL_run) (maxL := 9) (ret := (Option.some Jvm.ClassFile.FieldType.int)) (hh := [(0, 18, 21, 24), (0, 18, 25, 19), (0, 18, 29, 13)]) (by decide) rfl ?_
  intro p e s m args below meth c s₁ B hml hv
  obtain ⟨rfl, hsz, hP, hK, hD0, hE⟩ := hv
  have hx := B.exec
  have hb := B.bytes
  have hr := B.returns
  have hts0 := atoms_spec (ws := wh yL_run cL_run 9 (Option.some Jvm.ClassFile.FieldType.int) [(0, 18, 21, 24), (0, 18, 25, 19), (0, 18, 29, 13)]) B.pre
  have htab := vx_table B (hts0 _ List.mem_cons_self)
  have hts : ∀ w ∈ gw, w.before _ s = true := fun w h => hts0 w (List.mem_cons_of_mem _ h)
  have hown : s.vm.findClass RL = some m.cls := findClass_of_methodNamed B.named
  have hlocks := B.notSynchronized
  subst hsz
  have hD := hD0.self (sz := s.heap.size)
  generalize hAe : va_A [(gx, .inr (11, [.ref gq1, .ref gq4, .ref gq13, .ref gq136, .ref gq137, .ref gq138, .ref gq172, .ref gq184, .ref gq150, .ref gq161, .int (-1)])), (gq150, .inr (2, [.int 0, .ref gq151, .ref gq152, .ref gq153, .ref gq154, .ref gq155, .ref gq156, .int 0, .ref gq157, .ref gq158, .ref gq159, .int 0, .ref gq160]))] s.heap.size = A at hD hE ⊢
  have hA : ∀ q : Nat, s.heap.size ≤ q → A q := fun q h => by rw [← hAe]; exact Or.inr h
  have hS : va_S A s.heap s.heap [] := va_S.rf
  have hP : va_P (dC, dI) cls [(gx, .inr (11, [.ref gq1, .ref gq4, .ref gq13, .ref gq136, .ref gq137, .ref gq138, .ref gq172, .ref gq184, .ref gq150, .ref gq161, .int (-1)])), (gq150, .inr (2, [.int 0, .ref gq151, .ref gq152, .ref gq153, .ref gq154, .ref gq155, .ref gq156, .int 0, .ref gq157, .ref gq158, .ref gq159, .int 0, .ref gq160]))] s.heap := hP
  have hl := lv_entry ([.ref gx, .int p0, .int p1, .int p2, .int p3, .int p4, .int p5, .ref go]) (n := 9) (Nat.le_of_ble_eq_true rfl)
  rw [lg_entry_eq]
  generalize (lg_sl ([.ref gx, .int p0, .int p1, .int p2, .int p3, .int p4, .int p5, .ref go]) ++ List.replicate (9 - (lg_sl ([.ref gx, .int p0, .int p1, .int p2, .int p3, .int p4, .int p5, .ref go])).length) Slot.unset).toArray = ls at hl ⊢
  have hl : lv_has ls 9 [(0, .ref gx), (1, .int p0), (2, .int p1), (3, .int p2), (4, .int p3), (5, .int p4), (6, .int p5), (7, .ref go)] := hl
  refine lv_aload hx hb dL_run_0 (lv_at hl 7 rfl) ?_
  refine lv_iconst (v := 0) hx hb dL_run_2 (by decide) ?_
  refine lv_aload_n hx hb dL_run_3 rfl (lv_at hl 0 rfl) ?_
  refine lv_iload_n hx hb dL_run_4 rfl (lv_at hl 1 rfl) ?_
  refine lv_iload_n hx hb dL_run_5 rfl (lv_at hl 2 rfl) ?_
  refine lv_iload_n hx hb dL_run_6 rfl (lv_at hl 3 rfl) ?_
  refine lv_iload hx hb dL_run_7 (lv_at hl 4 rfl) ?_
  refine lv_iload hx hb dL_run_9 (lv_at hl 5 rfl) ?_
  refine lv_iload hx hb dL_run_11 (lv_at hl 6 rfl) ?_
  have hPc := hP.sub (ws' := [(gx, .inr (11, [.ref gq1, .ref gq4, .ref gq13, .ref gq136, .ref gq137, .ref gq138, .ref gq172, .ref gq184, .ref gq150, .ref gq161, .int (-1)])), (gq150, .inr (2, [.int 0, .ref gq151, .ref gq152, .ref gq153, .ref gq154, .ref gq155, .ref gq156, .int 0, .ref gq157, .ref gq158, .ref gq159, .int 0, .ref gq160]))]) [0, 1] rfl
  have hDc := hD.sub (ws' := [(gx, .inr (11, [.ref gq1, .ref gq4, .ref gq13, .ref gq136, .ref gq137, .ref gq138, .ref gq172, .ref gq184, .ref gq150, .ref gq161, .int (-1)])), (gq150, .inr (2, [.int 0, .ref gq151, .ref gq152, .ref gq153, .ref gq154, .ref gq155, .ref gq156, .int 0, .ref gq157, .ref gq158, .ref gq159, .int 0, .ref gq160]))]) [0, 1] (by decide) rfl
  have hKc := hK.sub (tys' := []) [] rfl
  have hFc := va_free (wc := [(gx, .inr (11, [.ref gq1, .ref gq4, .ref gq13, .ref gq136, .ref gq137, .ref gq138, .ref gq172, .ref gq184, .ref gq150, .ref gq161, .int (-1)])), (gq150, .inr (2, [.int 0, .ref gq151, .ref gq152, .ref gq153, .ref gq154, .ref gq155, .ref gq156, .int 0, .ref gq157, .ref gq158, .ref gq159, .int 0, .ref gq160]))]) hD hS hA [0, 1] rfl
  refine vx_calli (vx_runV (As := [.int p0, .int p1, .int p2, .int p3, .int p4, .int p5]) (rest := [.int 0, .ref go]) ⟨hx, hb, hml, hown, hts⟩ (kX11_run l dC dI (gx := gx) (gq1 := gq1) (gq4 := gq4) (gq13 := gq13) (gq136 := gq136) (gq137 := gq137) (gq138 := gq138) (gq150 := gq150) (gq151 := gq151) (gq152 := gq152) (gq153 := gq153) (gq154 := gq154) (gq155 := gq155) (gq156 := gq156) (gq157 := gq157) (gq158 := gq158) (gq159 := gq159) (gq160 := gq160) (gq161 := gq161) (gq172 := gq172) (gq184 := gq184) (p0 := p0) (p1 := p1) (p2 := p2) (p3 := p3) (p4 := p4) (p5 := p5) (sz := _) (hl9 := hl9)) (cwV 6 hts (gi_V qw568 qw569 qw570 qw222 (gi_z qw567)) rfl rfl rfl (by decide +kernel) ⟨Nat.le_of_ble_eq_true rfl, Nat.le_of_ble_eq_true rfl⟩) ⟨PRE.blind, va_recv hKc hPc (ci := 11) (q0 := 0) rfl rfl, PRE.of hE hS hFc hPc hKc hDc⟩ rfl rfl hl.1 rfl (lv_room (Nat.le_of_ble_eq_true rfl)) dL_run_13 ⟨Nat.le_of_ble_eq_true rfl, Nat.le_of_ble_eq_true rfl⟩) hS (fun q _ h => hFc q h) hFc (fun q _ h => hFc q h) (fun E ce q9 u t H locs ht hvm hw hB hz1 hk1 hS hce hcv hcl => ?_) (fun _ u t H locs ht hvm hw hB hz1 hk1 hS => hw.elim)
  obtain ⟨rfl, hB⟩ := hB
  obtain ⟨hP, hD, hK⟩ := JOIN (wr := []) hP hD hK [0, 1] [] [] rfl rfl (by decide) (by decide) rfl hk1 hFc ht hvm hB
  have hP : va_P (dC, dI) cls [] H := hP
  have hD : va_D A [] := hD
  have hK : va_K (dC, dI) cls [] s := hK
  refine vx_widen (k := 1) (n := 6) (Nat.le_of_ble_eq_true rfl) (Nat.le_of_ble_eq_true rfl) ?_
  refine vx_catch (own := RL) (name := "java/lang/IndexOutOfBoundsException") hown [] ⟨0, 18, 21, 24⟩ [⟨0, 18, 25, 19⟩, ⟨0, 18, 29, 13⟩] (htab.trans rfl) (fun z hz => by cases hz) (by decide) (by decide) (hts _ qw462) (hE.word (List.mem_append_right _ (tbl_9 (i := 38) rfl)) rfl) hce hcv hcl ?_
  refine lv_astore (lv' := [(8, .ref q9), (0, .ref gx), (1, .int p0), (2, .int p1), (3, .int p2), (4, .int p3), (5, .int p4), (6, .int p5), (7, .ref go)]) hx hb dL_run_21 hl (by decide) rfl (fun ls hl => ?_)
  refine lv_iconst (v := 1) hx hb dL_run_23 (by decide) ?_
  have hP9 : va_P (dC, dI) cls [] H := hP.sub [] rfl
  have hD9 : va_D A [] := hD.sub [] (by decide) rfl
  have hK9 : va_K (dC, dI) cls [] s := hK.sub [] rfl
  exact W.iret (v := 1) hx hb hr (fun t ht hW => ⟨⟨1, (), rfl, rfl, ⟨by rw [ht]; exact hP9, va_K.moved hW.alike hK9, hD9⟩⟩, hS.F ht⟩) hS.2.2 dL_run_24
set_option maxHeartbeats 4000000 in
set_option maxRecDepth 100000 in
theorem kL_differences {zs : Nat × Nat} (l : Launch) (dC : Nat → ClassId) (dI : Nat → Nat → Nat) (gx : Nat) (gq1 : Nat) (gq4 : Nat) (gq13 : Nat) (gq136 : Nat) (gq137 : Nat) (gq138 : Nat) (gq150 : Nat) (gq151 : Nat) (gq152 : Nat) (gq153 : Nat) (gq154 : Nat) (gq155 : Nat) (gq156 : Nat) (gq157 : Nat) (gq158 : Nat) (gq159 : Nat) (gq160 : Nat) (gq161 : Nat) (gq172 : Nat) (gq184 : Nat) (go : Nat) (p0 : Int32) (p1 : Int32) (p2 : Int32) (sz : Nat) (hl9 : l.stackTraces = false)  : Met l yL_differences (wh yL_differences cL_differences 6 (Option.some Jvm.ClassFile.FieldType.int) [(0, 12, 15, 24), (0, 12, 19, 19)]) ({ frames := 8, cells := 1, slots := 6, locals := 148 }) (va_Pc [.ref gx, .int p0, .int p1, .int p2, .ref go] (PRE zs dC dI [(gx, .inr (11, [.ref gq1, .ref gq4, .ref gq13, .ref gq136, .ref gq137, .ref gq138, .ref gq172, .ref gq184, .ref gq150, .ref gq161, .int (-1)])), (gq150, .inr (2, [.int 0, .ref gq151, .ref gq152, .ref gq153, .ref gq154, .ref gq155, .ref gq156, .int 0, .ref gq157, .ref gq158, .ref gq159, .int 0, .ref gq160]))] [] sz)) (va_Qi (fun (r : Int32) (_ : Unit) => r = 1) (fun _ t => POST dC dI [] [] (va_A [(gx, .inr (11, [.ref gq1, .ref gq4, .ref gq13, .ref gq136, .ref gq137, .ref gq138, .ref gq172, .ref gq184, .ref gq150, .ref gq161, .int (-1)])), (gq150, .inr (2, [.int 0, .ref gq151, .ref gq152, .ref gq153, .ref gq154, .ref gq155, .ref gq156, .int 0, .ref gq157, .ref gq158, .ref gq159, .int 0, .ref gq160]))] sz) t) (va_A [(gx, .inr (11, [.ref gq1, .ref gq4, .ref gq13, .ref gq136, .ref gq137, .ref gq138, .ref gq172, .ref gq184, .ref gq150, .ref gq161, .int (-1)])), (gq150, .inr (2, [.int 0, .ref gq151, .ref gq152, .ref gq153, .ref gq154, .ref gq155, .ref gq156, .int 0, .ref gq157, .ref gq158, .ref gq159, .int 0, .ref gq160]))] sz)) 1 6 (va_A [(gx, .inr (11, [.ref gq1, .ref gq4, .ref gq13, .ref gq136, .ref gq137, .ref gq138, .ref gq172, .ref gq184, .ref gq150, .ref gq161, .int (-1)])), (gq150, .inr (2, [.int 0, .ref gq151, .ref gq152, .ref gq153, .ref gq154, .ref gq155, .ref gq156, .int 0, .ref gq157, .ref gq158, .ref gq159, .int 0, .ref gq160]))] sz) := by
  refine va_MetW (cc := cL_differences) (maxL := 6) (ret := (Option.some Jvm.ClassFile.FieldType.int)) (hh := [(0, 12, 15, 24), (0, 12, 19, 19)]) (by decide) rfl ?_
  intro p e s m args below meth c s₁ B hml hv
  obtain ⟨rfl, hsz, hP, hK, hD0, hE⟩ := hv
  have hx := B.exec
  have hb := B.bytes
  have hr := B.returns
  have hts0 := atoms_spec (ws := wh yL_differences cL_differences 6 (Option.some Jvm.ClassFile.FieldType.int) [(0, 12, 15, 24), (0, 12, 19, 19)]) B.pre
  have htab := vx_table B (hts0 _ List.mem_cons_self)
  have hts : ∀ w ∈ gw, w.before _ s = true := fun w h => hts0 w (List.mem_cons_of_mem _ h)
  have hown : s.vm.findClass RL = some m.cls := findClass_of_methodNamed B.named
  have hlocks := B.notSynchronized
  subst hsz
  have hD := hD0.self (sz := s.heap.size)
  generalize hAe : va_A [(gx, .inr (11, [.ref gq1, .ref gq4, .ref gq13, .ref gq136, .ref gq137, .ref gq138, .ref gq172, .ref gq184, .ref gq150, .ref gq161, .int (-1)])), (gq150, .inr (2, [.int 0, .ref gq151, .ref gq152, .ref gq153, .ref gq154, .ref gq155, .ref gq156, .int 0, .ref gq157, .ref gq158, .ref gq159, .int 0, .ref gq160]))] s.heap.size = A at hD hE ⊢
  have hA : ∀ q : Nat, s.heap.size ≤ q → A q := fun q h => by rw [← hAe]; exact Or.inr h
  have hS : va_S A s.heap s.heap [] := va_S.rf
  have hP : va_P (dC, dI) cls [(gx, .inr (11, [.ref gq1, .ref gq4, .ref gq13, .ref gq136, .ref gq137, .ref gq138, .ref gq172, .ref gq184, .ref gq150, .ref gq161, .int (-1)])), (gq150, .inr (2, [.int 0, .ref gq151, .ref gq152, .ref gq153, .ref gq154, .ref gq155, .ref gq156, .int 0, .ref gq157, .ref gq158, .ref gq159, .int 0, .ref gq160]))] s.heap := hP
  have hl := lv_entry ([.ref gx, .int p0, .int p1, .int p2, .ref go]) (n := 6) (Nat.le_of_ble_eq_true rfl)
  rw [lg_entry_eq]
  generalize (lg_sl ([.ref gx, .int p0, .int p1, .int p2, .ref go]) ++ List.replicate (6 - (lg_sl ([.ref gx, .int p0, .int p1, .int p2, .ref go])).length) Slot.unset).toArray = ls at hl ⊢
  have hl : lv_has ls 6 [(0, .ref gx), (1, .int p0), (2, .int p1), (3, .int p2), (4, .ref go)] := hl
  refine lv_aload hx hb dL_differences_0 (lv_at hl 4 rfl) ?_
  refine lv_iconst (v := 0) hx hb dL_differences_2 (by decide) ?_
  refine lv_aload_n hx hb dL_differences_3 rfl (lv_at hl 0 rfl) ?_
  refine lv_iload_n hx hb dL_differences_4 rfl (lv_at hl 1 rfl) ?_
  refine lv_iload_n hx hb dL_differences_5 rfl (lv_at hl 2 rfl) ?_
  refine lv_iload_n hx hb dL_differences_6 rfl (lv_at hl 3 rfl) ?_
  have hPc := hP.sub (ws' := [(gx, .inr (11, [.ref gq1, .ref gq4, .ref gq13, .ref gq136, .ref gq137, .ref gq138, .ref gq172, .ref gq184, .ref gq150, .ref gq161, .int (-1)])), (gq150, .inr (2, [.int 0, .ref gq151, .ref gq152, .ref gq153, .ref gq154, .ref gq155, .ref gq156, .int 0, .ref gq157, .ref gq158, .ref gq159, .int 0, .ref gq160]))]) [0, 1] rfl
  have hDc := hD.sub (ws' := [(gx, .inr (11, [.ref gq1, .ref gq4, .ref gq13, .ref gq136, .ref gq137, .ref gq138, .ref gq172, .ref gq184, .ref gq150, .ref gq161, .int (-1)])), (gq150, .inr (2, [.int 0, .ref gq151, .ref gq152, .ref gq153, .ref gq154, .ref gq155, .ref gq156, .int 0, .ref gq157, .ref gq158, .ref gq159, .int 0, .ref gq160]))]) [0, 1] (by decide) rfl
  have hKc := hK.sub (tys' := []) [] rfl
  have hFc := va_free (wc := [(gx, .inr (11, [.ref gq1, .ref gq4, .ref gq13, .ref gq136, .ref gq137, .ref gq138, .ref gq172, .ref gq184, .ref gq150, .ref gq161, .int (-1)])), (gq150, .inr (2, [.int 0, .ref gq151, .ref gq152, .ref gq153, .ref gq154, .ref gq155, .ref gq156, .int 0, .ref gq157, .ref gq158, .ref gq159, .int 0, .ref gq160]))]) hD hS hA [0, 1] rfl
  refine vx_calli (vx_runV (As := [.int p0, .int p1, .int p2]) (rest := [.int 0, .ref go]) ⟨hx, hb, hml, hown, hts⟩ (kX11_differences l dC dI (gx := gx) (gq1 := gq1) (gq4 := gq4) (gq13 := gq13) (gq136 := gq136) (gq137 := gq137) (gq138 := gq138) (gq150 := gq150) (gq151 := gq151) (gq152 := gq152) (gq153 := gq153) (gq154 := gq154) (gq155 := gq155) (gq156 := gq156) (gq157 := gq157) (gq158 := gq158) (gq159 := gq159) (gq160 := gq160) (gq161 := gq161) (gq172 := gq172) (gq184 := gq184) (p0 := p0) (p1 := p1) (p2 := p2) (sz := _) (hl9 := hl9)) (cwV 3 hts (gi_V qw572 qw573 qw574 qw222 (gi_z qw571)) rfl rfl rfl (by decide +kernel) ⟨Nat.le_of_ble_eq_true rfl, Nat.le_of_ble_eq_true rfl⟩) ⟨PRE.blind, va_recv hKc hPc (ci := 11) (q0 := 0) rfl rfl, PRE.of hE hS hFc hPc hKc hDc⟩ rfl rfl hl.1 rfl (lv_room (Nat.le_of_ble_eq_true rfl)) dL_differences_7 ⟨Nat.le_of_ble_eq_true rfl, Nat.le_of_ble_eq_true rfl⟩) hS (fun q _ h => hFc q h) hFc (fun q _ h => hFc q h) (fun E ce q9 u t H locs ht hvm hw hB hz1 hk1 hS hce hcv hcl => ?_) (fun _ u t H locs ht hvm hw hB hz1 hk1 hS => hw.elim)
  obtain ⟨rfl, hB⟩ := hB
  obtain ⟨hP, hD, hK⟩ := JOIN (wr := []) hP hD hK [0, 1] [] [] rfl rfl (by decide) (by decide) rfl hk1 hFc ht hvm hB
  have hP : va_P (dC, dI) cls [] H := hP
  have hD : va_D A [] := hD
  have hK : va_K (dC, dI) cls [] s := hK
  refine vx_widen (k := 1) (n := 6) (Nat.le_of_ble_eq_true rfl) (Nat.le_of_ble_eq_true rfl) ?_
  refine vx_catch (own := RL) (name := "java/lang/IndexOutOfBoundsException") hown [] ⟨0, 12, 15, 24⟩ [⟨0, 12, 19, 19⟩] (htab.trans rfl) (fun z hz => by cases hz) (by decide) (by decide) (hts _ qw462) (hE.word (List.mem_append_right _ (tbl_9 (i := 38) rfl)) rfl) hce hcv hcl ?_
  refine lv_astore (lv' := [(5, .ref q9), (0, .ref gx), (1, .int p0), (2, .int p1), (3, .int p2), (4, .ref go)]) hx hb dL_differences_15 hl (by decide) rfl (fun ls hl => ?_)
  refine lv_iconst (v := 1) hx hb dL_differences_17 (by decide) ?_
  have hP9 : va_P (dC, dI) cls [] H := hP.sub [] rfl
  have hD9 : va_D A [] := hD.sub [] (by decide) rfl
  have hK9 : va_K (dC, dI) cls [] s := hK.sub [] rfl
  exact W.iret (v := 1) hx hb hr (fun t ht hW => ⟨⟨1, (), rfl, rfl, ⟨by rw [ht]; exact hP9, va_K.moved hW.alike hK9, hD9⟩⟩, hS.F ht⟩) hS.2.2 dL_differences_18
set_option maxHeartbeats 4000000 in
set_option maxRecDepth 100000 in
theorem kL_word_a {zs : Nat × Nat} (l : Launch) (dC : Nat → ClassId) (dI : Nat → Nat → Nat) (gx : Nat) (gq1 : Nat) (gq4 : Nat) (gq13 : Nat) (gq136 : Nat) (gq137 : Nat) (gq138 : Nat) (gq150 : Nat) (gq161 : Nat) (gq172 : Nat) (gq184 : Nat) (go : Nat) (p0 : Int32) (sz : Nat) (hl9 : l.stackTraces = false) (h1 : p0 < 0) : Met l yL_word (wh yL_word cL_word 4 (Option.some Jvm.ClassFile.FieldType.int) [(0, 9, 12, 24)]) ({ frames := 8, cells := 1, slots := 6, locals := 143 }) (va_Pc [.ref gx, .int p0, .ref go] (PRE zs dC dI [(gx, .inr (11, [.ref gq1, .ref gq4, .ref gq13, .ref gq136, .ref gq137, .ref gq138, .ref gq172, .ref gq184, .ref gq150, .ref gq161, .int (-1)]))] [] sz)) (va_Qi (fun (r : Int32) (_ : Unit) => r = 1) (fun _ t => POST dC dI [] [] (va_A [(gx, .inr (11, [.ref gq1, .ref gq4, .ref gq13, .ref gq136, .ref gq137, .ref gq138, .ref gq172, .ref gq184, .ref gq150, .ref gq161, .int (-1)]))] sz) t) (va_A [(gx, .inr (11, [.ref gq1, .ref gq4, .ref gq13, .ref gq136, .ref gq137, .ref gq138, .ref gq172, .ref gq184, .ref gq150, .ref gq161, .int (-1)]))] sz)) 1 6 (va_A [(gx, .inr (11, [.ref gq1, .ref gq4, .ref gq13, .ref gq136, .ref gq137, .ref gq138, .ref gq172, .ref gq184, .ref gq150, .ref gq161, .int (-1)]))] sz) := by
  refine va_MetW (cc := cL_word) (maxL := 4) (ret := (Option.some Jvm.ClassFile.FieldType.int)) (hh := [(0, 9, 12, 24)]) (by decide) rfl ?_
  intro p e s m args below meth c s₁ B hml hv
  obtain ⟨rfl, hsz, hP, hK, hD0, hE⟩ := hv
  have hx := B.exec
  have hb := B.bytes
  have hr := B.returns
  have hts0 := atoms_spec (ws := wh yL_word cL_word 4 (Option.some Jvm.ClassFile.FieldType.int) [(0, 9, 12, 24)]) B.pre
  have htab := vx_table B (hts0 _ List.mem_cons_self)
  have hts : ∀ w ∈ gw, w.before _ s = true := fun w h => hts0 w (List.mem_cons_of_mem _ h)
  have hown : s.vm.findClass RL = some m.cls := findClass_of_methodNamed B.named
  have hlocks := B.notSynchronized
  subst hsz
  have hD := hD0.self (sz := s.heap.size)
  generalize hAe : va_A [(gx, .inr (11, [.ref gq1, .ref gq4, .ref gq13, .ref gq136, .ref gq137, .ref gq138, .ref gq172, .ref gq184, .ref gq150, .ref gq161, .int (-1)]))] s.heap.size = A at hD hE ⊢
  have hA : ∀ q : Nat, s.heap.size ≤ q → A q := fun q h => by rw [← hAe]; exact Or.inr h
  have hS : va_S A s.heap s.heap [] := va_S.rf
  have hP : va_P (dC, dI) cls [(gx, .inr (11, [.ref gq1, .ref gq4, .ref gq13, .ref gq136, .ref gq137, .ref gq138, .ref gq172, .ref gq184, .ref gq150, .ref gq161, .int (-1)]))] s.heap := hP
  have hl := lv_entry ([.ref gx, .int p0, .ref go]) (n := 4) (Nat.le_of_ble_eq_true rfl)
  rw [lg_entry_eq]
  generalize (lg_sl ([.ref gx, .int p0, .ref go]) ++ List.replicate (4 - (lg_sl ([.ref gx, .int p0, .ref go])).length) Slot.unset).toArray = ls at hl ⊢
  have hl : lv_has ls 4 [(0, .ref gx), (1, .int p0), (2, .ref go)] := hl
  refine lv_aload_n hx hb dL_word_0 rfl (lv_at hl 2 rfl) ?_
  refine lv_iconst (v := 0) hx hb dL_word_1 (by decide) ?_
  refine lv_aload_n hx hb dL_word_2 rfl (lv_at hl 0 rfl) ?_
  refine lv_iload_n hx hb dL_word_3 rfl (lv_at hl 1 rfl) ?_
  have hPc := hP.sub (ws' := [(gx, .inr (11, [.ref gq1, .ref gq4, .ref gq13, .ref gq136, .ref gq137, .ref gq138, .ref gq172, .ref gq184, .ref gq150, .ref gq161, .int (-1)]))]) [0] rfl
  have hDc := hD.sub (ws' := [(gx, .inr (11, [.ref gq1, .ref gq4, .ref gq13, .ref gq136, .ref gq137, .ref gq138, .ref gq172, .ref gq184, .ref gq150, .ref gq161, .int (-1)]))]) [0] (by decide) rfl
  have hKc := hK.sub (tys' := []) [] rfl
  have hFc := va_free (wc := [(gx, .inr (11, [.ref gq1, .ref gq4, .ref gq13, .ref gq136, .ref gq137, .ref gq138, .ref gq172, .ref gq184, .ref gq150, .ref gq161, .int (-1)]))]) hD hS hA [0] rfl
  refine vx_calli (vx_runV (As := [.int p0]) (rest := [.int 0, .ref go]) ⟨hx, hb, hml, hown, hts⟩ (kX11_word_a l dC dI (gx := gx) (gq1 := gq1) (gq4 := gq4) (gq13 := gq13) (gq136 := gq136) (gq137 := gq137) (gq138 := gq138) (gq150 := gq150) (gq161 := gq161) (gq172 := gq172) (gq184 := gq184) (p0 := p0) (sz := _) (hl9 := hl9) (h1 := h1)) (cwV 1 hts (gi_V qw576 qw577 qw578 qw222 (gi_z qw575)) rfl rfl rfl (by decide +kernel) ⟨Nat.le_of_ble_eq_true rfl, Nat.le_of_ble_eq_true rfl⟩) ⟨PRE.blind, va_recv hKc hPc (ci := 11) (q0 := 0) rfl rfl, PRE.of hE hS hFc hPc hKc hDc⟩ rfl rfl hl.1 rfl (lv_room (Nat.le_of_ble_eq_true rfl)) dL_word_4 ⟨Nat.le_of_ble_eq_true rfl, Nat.le_of_ble_eq_true rfl⟩) hS (fun q _ h => hFc q h) hFc (fun q _ h => hFc q h) (fun E ce q9 u t H locs ht hvm hw hB hz1 hk1 hS hce hcv hcl => ?_) (fun _ u t H locs ht hvm hw hB hz1 hk1 hS => hw.elim)
  obtain ⟨rfl, hB⟩ := hB
  obtain ⟨hP, hD, hK⟩ := JOIN (wr := []) hP hD hK [0] [] [] rfl rfl (by decide) (by decide) rfl hk1 hFc ht hvm hB
  have hP : va_P (dC, dI) cls [] H := hP
  have hD : va_D A [] := hD
  have hK : va_K (dC, dI) cls [] s := hK
  refine vx_widen (k := 1) (n := 6) (Nat.le_of_ble_eq_true rfl) (Nat.le_of_ble_eq_true rfl) ?_
  refine vx_catch (own := RL) (name := "java/lang/IndexOutOfBoundsException") hown [] ⟨0, 9, 12, 24⟩ [] (htab.trans rfl) (fun z hz => by cases hz) (by decide) (by decide) (hts _ qw462) (hE.word (List.mem_append_right _ (tbl_9 (i := 38) rfl)) rfl) hce hcv hcl ?_
  refine lv_astore_n (lv' := [(3, .ref q9), (0, .ref gx), (1, .int p0), (2, .ref go)]) hx hb dL_word_12 rfl hl (by decide) rfl (fun ls hl => ?_)
  refine lv_iconst (v := 1) hx hb dL_word_13 (by decide) ?_
  have hP9 : va_P (dC, dI) cls [] H := hP.sub [] rfl
  have hD9 : va_D A [] := hD.sub [] (by decide) rfl
  have hK9 : va_K (dC, dI) cls [] s := hK.sub [] rfl
  exact W.iret (v := 1) hx hb hr (fun t ht hW => ⟨⟨1, (), rfl, rfl, ⟨by rw [ht]; exact hP9, va_K.moved hW.alike hK9, hD9⟩⟩, hS.F ht⟩) hS.2.2 dL_word_14
set_option maxHeartbeats 4000000 in
set_option maxRecDepth 100000 in
theorem kL_word_b {zs : Nat × Nat} (l : Launch) (dC : Nat → ClassId) (dI : Nat → Nat → Nat) (gx : Nat) (gq1 : Nat) (gq4 : Nat) (gq13 : Nat) (gq136 : Nat) (gq137 : Nat) (gq138 : Nat) (gq150 : Nat) (gq161 : Nat) (gq172 : Nat) (gq184 : Nat) (go : Nat) (p0 : Int32) (sz : Nat) (hl9 : l.stackTraces = false) (h1 : ¬ p0 < 0) (h2 : 16 ≤ p0) : Met l yL_word (wh yL_word cL_word 4 (Option.some Jvm.ClassFile.FieldType.int) [(0, 9, 12, 24)]) ({ frames := 8, cells := 1, slots := 6, locals := 143 }) (va_Pc [.ref gx, .int p0, .ref go] (PRE zs dC dI [(gx, .inr (11, [.ref gq1, .ref gq4, .ref gq13, .ref gq136, .ref gq137, .ref gq138, .ref gq172, .ref gq184, .ref gq150, .ref gq161, .int (-1)]))] [] sz)) (va_Qi (fun (r : Int32) (_ : Unit) => r = 1) (fun _ t => POST dC dI [] [] (va_A [(gx, .inr (11, [.ref gq1, .ref gq4, .ref gq13, .ref gq136, .ref gq137, .ref gq138, .ref gq172, .ref gq184, .ref gq150, .ref gq161, .int (-1)]))] sz) t) (va_A [(gx, .inr (11, [.ref gq1, .ref gq4, .ref gq13, .ref gq136, .ref gq137, .ref gq138, .ref gq172, .ref gq184, .ref gq150, .ref gq161, .int (-1)]))] sz)) 1 6 (va_A [(gx, .inr (11, [.ref gq1, .ref gq4, .ref gq13, .ref gq136, .ref gq137, .ref gq138, .ref gq172, .ref gq184, .ref gq150, .ref gq161, .int (-1)]))] sz) := by
  refine va_MetW (cc := cL_word) (maxL := 4) (ret := (Option.some Jvm.ClassFile.FieldType.int)) (hh := [(0, 9, 12, 24)]) (by decide) rfl ?_
  intro p e s m args below meth c s₁ B hml hv
  obtain ⟨rfl, hsz, hP, hK, hD0, hE⟩ := hv
  have hx := B.exec
  have hb := B.bytes
  have hr := B.returns
  have hts0 := atoms_spec (ws := wh yL_word cL_word 4 (Option.some Jvm.ClassFile.FieldType.int) [(0, 9, 12, 24)]) B.pre
  have htab := vx_table B (hts0 _ List.mem_cons_self)
  have hts : ∀ w ∈ gw, w.before _ s = true := fun w h => hts0 w (List.mem_cons_of_mem _ h)
  have hown : s.vm.findClass RL = some m.cls := findClass_of_methodNamed B.named
  have hlocks := B.notSynchronized
  subst hsz
  have hD := hD0.self (sz := s.heap.size)
  generalize hAe : va_A [(gx, .inr (11, [.ref gq1, .ref gq4, .ref gq13, .ref gq136, .ref gq137, .ref gq138, .ref gq172, .ref gq184, .ref gq150, .ref gq161, .int (-1)]))] s.heap.size = A at hD hE ⊢
  have hA : ∀ q : Nat, s.heap.size ≤ q → A q := fun q h => by rw [← hAe]; exact Or.inr h
  have hS : va_S A s.heap s.heap [] := va_S.rf
  have hP : va_P (dC, dI) cls [(gx, .inr (11, [.ref gq1, .ref gq4, .ref gq13, .ref gq136, .ref gq137, .ref gq138, .ref gq172, .ref gq184, .ref gq150, .ref gq161, .int (-1)]))] s.heap := hP
  have hl := lv_entry ([.ref gx, .int p0, .ref go]) (n := 4) (Nat.le_of_ble_eq_true rfl)
  rw [lg_entry_eq]
  generalize (lg_sl ([.ref gx, .int p0, .ref go]) ++ List.replicate (4 - (lg_sl ([.ref gx, .int p0, .ref go])).length) Slot.unset).toArray = ls at hl ⊢
  have hl : lv_has ls 4 [(0, .ref gx), (1, .int p0), (2, .ref go)] := hl
  refine lv_aload_n hx hb dL_word_0 rfl (lv_at hl 2 rfl) ?_
  refine lv_iconst (v := 0) hx hb dL_word_1 (by decide) ?_
  refine lv_aload_n hx hb dL_word_2 rfl (lv_at hl 0 rfl) ?_
  refine lv_iload_n hx hb dL_word_3 rfl (lv_at hl 1 rfl) ?_
  have hPc := hP.sub (ws' := [(gx, .inr (11, [.ref gq1, .ref gq4, .ref gq13, .ref gq136, .ref gq137, .ref gq138, .ref gq172, .ref gq184, .ref gq150, .ref gq161, .int (-1)]))]) [0] rfl
  have hDc := hD.sub (ws' := [(gx, .inr (11, [.ref gq1, .ref gq4, .ref gq13, .ref gq136, .ref gq137, .ref gq138, .ref gq172, .ref gq184, .ref gq150, .ref gq161, .int (-1)]))]) [0] (by decide) rfl
  have hKc := hK.sub (tys' := []) [] rfl
  have hFc := va_free (wc := [(gx, .inr (11, [.ref gq1, .ref gq4, .ref gq13, .ref gq136, .ref gq137, .ref gq138, .ref gq172, .ref gq184, .ref gq150, .ref gq161, .int (-1)]))]) hD hS hA [0] rfl
  refine vx_calli (vx_runV (As := [.int p0]) (rest := [.int 0, .ref go]) ⟨hx, hb, hml, hown, hts⟩ (kX11_word_b l dC dI (gx := gx) (gq1 := gq1) (gq4 := gq4) (gq13 := gq13) (gq136 := gq136) (gq137 := gq137) (gq138 := gq138) (gq150 := gq150) (gq161 := gq161) (gq172 := gq172) (gq184 := gq184) (p0 := p0) (sz := _) (hl9 := hl9) (h1 := h1) (h2 := h2)) (cwV 1 hts (gi_V qw576 qw577 qw578 qw222 (gi_z qw575)) rfl rfl rfl (by decide +kernel) ⟨Nat.le_of_ble_eq_true rfl, Nat.le_of_ble_eq_true rfl⟩) ⟨PRE.blind, va_recv hKc hPc (ci := 11) (q0 := 0) rfl rfl, PRE.of hE hS hFc hPc hKc hDc⟩ rfl rfl hl.1 rfl (lv_room (Nat.le_of_ble_eq_true rfl)) dL_word_4 ⟨Nat.le_of_ble_eq_true rfl, Nat.le_of_ble_eq_true rfl⟩) hS (fun q _ h => hFc q h) hFc (fun q _ h => hFc q h) (fun E ce q9 u t H locs ht hvm hw hB hz1 hk1 hS hce hcv hcl => ?_) (fun _ u t H locs ht hvm hw hB hz1 hk1 hS => hw.elim)
  obtain ⟨rfl, hB⟩ := hB
  obtain ⟨hP, hD, hK⟩ := JOIN (wr := []) hP hD hK [0] [] [] rfl rfl (by decide) (by decide) rfl hk1 hFc ht hvm hB
  have hP : va_P (dC, dI) cls [] H := hP
  have hD : va_D A [] := hD
  have hK : va_K (dC, dI) cls [] s := hK
  refine vx_widen (k := 1) (n := 6) (Nat.le_of_ble_eq_true rfl) (Nat.le_of_ble_eq_true rfl) ?_
  refine vx_catch (own := RL) (name := "java/lang/IndexOutOfBoundsException") hown [] ⟨0, 9, 12, 24⟩ [] (htab.trans rfl) (fun z hz => by cases hz) (by decide) (by decide) (hts _ qw462) (hE.word (List.mem_append_right _ (tbl_9 (i := 38) rfl)) rfl) hce hcv hcl ?_
  refine lv_astore_n (lv' := [(3, .ref q9), (0, .ref gx), (1, .int p0), (2, .ref go)]) hx hb dL_word_12 rfl hl (by decide) rfl (fun ls hl => ?_)
  refine lv_iconst (v := 1) hx hb dL_word_13 (by decide) ?_
  have hP9 : va_P (dC, dI) cls [] H := hP.sub [] rfl
  have hD9 : va_D A [] := hD.sub [] (by decide) rfl
  have hK9 : va_K (dC, dI) cls [] s := hK.sub [] rfl
  exact W.iret (v := 1) hx hb hr (fun t ht hW => ⟨⟨1, (), rfl, rfl, ⟨by rw [ht]; exact hP9, va_K.moved hW.alike hK9, hD9⟩⟩, hS.F ht⟩) hS.2.2 dL_word_14
set_option maxHeartbeats 4000000 in
set_option maxRecDepth 100000 in
theorem kL_word_c {zs : Nat × Nat} (l : Launch) (dC : Nat → ClassId) (dI : Nat → Nat → Nat) (gx : Nat) (gq1 : Nat) (gq4 : Nat) (gq13 : Nat) (gq136 : Nat) (gq137 : Nat) (gq138 : Nat) (gq150 : Nat) (gq161 : Nat) (gq172 : Nat) (gq173 : Nat) (gc174 : ClassId) (gq175 : Nat) (gq176 : Nat) (gq177 : Nat) (gq178 : Nat) (gq179 : Nat) (gq180 : Nat) (gq181 : Nat) (gq182 : Nat) (gq183 : Nat) (gq184 : Nat) (go : Nat) (gk : ClassId) (p0 : Int32) (sz : Nat) (h1 : ¬ p0 < 0) (h2 : ¬ 16 ≤ p0) : Met l yL_word (wh yL_word cL_word 4 (Option.some Jvm.ClassFile.FieldType.int) [(0, 9, 12, 24)]) ({ frames := 2, cells := 0, slots := 0, locals := 43 }) (va_Pc [.ref gx, .int p0, .ref go] (PRE zs dC dI [(gx, .inr (11, [.ref gq1, .ref gq4, .ref gq13, .ref gq136, .ref gq137, .ref gq138, .ref gq172, .ref gq184, .ref gq150, .ref gq161, .int (-1)])), (gq172, .inr (10, [.int 0, .int 0, .int 0, .ref gq173, .ref gq150, .ref gq13, .ref gq138, .ref gq175, .int 0, .int 0, .ref gq176, .ref gq177, .ref gq178, .ref gq179, .ref gq180, .ref gq181, .ref gq182, .int 0, .ref gq183, .int 0])), (gq173, .inl (gc174, 16, .inl (fun _ => 0))), (go, .inl (gk, 1, .inr (.inl (fun _ => 0))))] [(gc174, .int), (gk, .long)] sz)) (va_Qi (fun (r : Int32) (u : Nat → Int64) => r = 0 ∧ u 0 = 0) (fun u t => POST dC dI [(go, .inl (gk, 1, .inr (.inl u)))] [(gk, .long)] (va_A [(gx, .inr (11, [.ref gq1, .ref gq4, .ref gq13, .ref gq136, .ref gq137, .ref gq138, .ref gq172, .ref gq184, .ref gq150, .ref gq161, .int (-1)])), (gq172, .inr (10, [.int 0, .int 0, .int 0, .ref gq173, .ref gq150, .ref gq13, .ref gq138, .ref gq175, .int 0, .int 0, .ref gq176, .ref gq177, .ref gq178, .ref gq179, .ref gq180, .ref gq181, .ref gq182, .int 0, .ref gq183, .int 0])), (gq173, .inl (gc174, 16, .inl (fun _ => 0))), (go, .inl (gk, 1, .inr (.inl (fun _ => 0))))] sz) t) (va_A [(gx, .inr (11, [.ref gq1, .ref gq4, .ref gq13, .ref gq136, .ref gq137, .ref gq138, .ref gq172, .ref gq184, .ref gq150, .ref gq161, .int (-1)])), (gq172, .inr (10, [.int 0, .int 0, .int 0, .ref gq173, .ref gq150, .ref gq13, .ref gq138, .ref gq175, .int 0, .int 0, .ref gq176, .ref gq177, .ref gq178, .ref gq179, .ref gq180, .ref gq181, .ref gq182, .int 0, .ref gq183, .int 0])), (gq173, .inl (gc174, 16, .inl (fun _ => 0))), (go, .inl (gk, 1, .inr (.inl (fun _ => 0))))] sz)) 0 0 (va_A [(gx, .inr (11, [.ref gq1, .ref gq4, .ref gq13, .ref gq136, .ref gq137, .ref gq138, .ref gq172, .ref gq184, .ref gq150, .ref gq161, .int (-1)])), (gq172, .inr (10, [.int 0, .int 0, .int 0, .ref gq173, .ref gq150, .ref gq13, .ref gq138, .ref gq175, .int 0, .int 0, .ref gq176, .ref gq177, .ref gq178, .ref gq179, .ref gq180, .ref gq181, .ref gq182, .int 0, .ref gq183, .int 0])), (gq173, .inl (gc174, 16, .inl (fun _ => 0))), (go, .inl (gk, 1, .inr (.inl (fun _ => 0))))] sz) := by
  refine va_MetW (cc := cL_word) (maxL := 4) (ret := (Option.some Jvm.ClassFile.FieldType.int)) (hh := [(0, 9, 12, 24)]) (by decide) rfl ?_
  intro p e s m args below meth c s₁ B hml hv
  obtain ⟨rfl, hsz, hP, hK, hD0, hE⟩ := hv
  have hx := B.exec
  have hb := B.bytes
  have hr := B.returns
  have hts0 := atoms_spec (ws := wh yL_word cL_word 4 (Option.some Jvm.ClassFile.FieldType.int) [(0, 9, 12, 24)]) B.pre
  have htab := vx_table B (hts0 _ List.mem_cons_self)
  have hts : ∀ w ∈ gw, w.before _ s = true := fun w h => hts0 w (List.mem_cons_of_mem _ h)
  have hown : s.vm.findClass RL = some m.cls := findClass_of_methodNamed B.named
  have hlocks := B.notSynchronized
  subst hsz
  have hD := hD0.self (sz := s.heap.size)
  generalize hAe : va_A [(gx, .inr (11, [.ref gq1, .ref gq4, .ref gq13, .ref gq136, .ref gq137, .ref gq138, .ref gq172, .ref gq184, .ref gq150, .ref gq161, .int (-1)])), (gq172, .inr (10, [.int 0, .int 0, .int 0, .ref gq173, .ref gq150, .ref gq13, .ref gq138, .ref gq175, .int 0, .int 0, .ref gq176, .ref gq177, .ref gq178, .ref gq179, .ref gq180, .ref gq181, .ref gq182, .int 0, .ref gq183, .int 0])), (gq173, .inl (gc174, 16, .inl (fun _ => 0))), (go, .inl (gk, 1, .inr (.inl (fun _ => 0))))] s.heap.size = A at hD hE ⊢
  have hA : ∀ q : Nat, s.heap.size ≤ q → A q := fun q h => by rw [← hAe]; exact Or.inr h
  have hS : va_S A s.heap s.heap [] := va_S.rf
  have hP : va_P (dC, dI) cls [(gx, .inr (11, [.ref gq1, .ref gq4, .ref gq13, .ref gq136, .ref gq137, .ref gq138, .ref gq172, .ref gq184, .ref gq150, .ref gq161, .int (-1)])), (gq172, .inr (10, [.int 0, .int 0, .int 0, .ref gq173, .ref gq150, .ref gq13, .ref gq138, .ref gq175, .int 0, .int 0, .ref gq176, .ref gq177, .ref gq178, .ref gq179, .ref gq180, .ref gq181, .ref gq182, .int 0, .ref gq183, .int 0])), (gq173, .inl (gc174, 16, .inl (fun _ => 0))), (go, .inl (gk, 1, .inr (.inl (fun _ => 0))))] s.heap := hP
  have hl := lv_entry ([.ref gx, .int p0, .ref go]) (n := 4) (Nat.le_of_ble_eq_true rfl)
  rw [lg_entry_eq]
  generalize (lg_sl ([.ref gx, .int p0, .ref go]) ++ List.replicate (4 - (lg_sl ([.ref gx, .int p0, .ref go])).length) Slot.unset).toArray = ls at hl ⊢
  have hl : lv_has ls 4 [(0, .ref gx), (1, .int p0), (2, .ref go)] := hl
  refine lv_aload_n hx hb dL_word_0 rfl (lv_at hl 2 rfl) ?_
  refine lv_iconst (v := 0) hx hb dL_word_1 (by decide) ?_
  refine lv_aload_n hx hb dL_word_2 rfl (lv_at hl 0 rfl) ?_
  refine lv_iload_n hx hb dL_word_3 rfl (lv_at hl 1 rfl) ?_
  have hPc := hP.sub (ws' := [(gx, .inr (11, [.ref gq1, .ref gq4, .ref gq13, .ref gq136, .ref gq137, .ref gq138, .ref gq172, .ref gq184, .ref gq150, .ref gq161, .int (-1)])), (gq172, .inr (10, [.int 0, .int 0, .int 0, .ref gq173, .ref gq150, .ref gq13, .ref gq138, .ref gq175, .int 0, .int 0, .ref gq176, .ref gq177, .ref gq178, .ref gq179, .ref gq180, .ref gq181, .ref gq182, .int 0, .ref gq183, .int 0])), (gq173, .inl (gc174, 16, .inl (fun _ => 0)))]) [0, 1, 2] rfl
  have hDc := hD.sub (ws' := [(gx, .inr (11, [.ref gq1, .ref gq4, .ref gq13, .ref gq136, .ref gq137, .ref gq138, .ref gq172, .ref gq184, .ref gq150, .ref gq161, .int (-1)])), (gq172, .inr (10, [.int 0, .int 0, .int 0, .ref gq173, .ref gq150, .ref gq13, .ref gq138, .ref gq175, .int 0, .int 0, .ref gq176, .ref gq177, .ref gq178, .ref gq179, .ref gq180, .ref gq181, .ref gq182, .int 0, .ref gq183, .int 0])), (gq173, .inl (gc174, 16, .inl (fun _ => 0)))]) [0, 1, 2] (by decide) rfl
  have hKc := hK.sub (tys' := [(gc174, .int)]) [0] rfl
  have hFc := va_free (wc := [(gx, .inr (11, [.ref gq1, .ref gq4, .ref gq13, .ref gq136, .ref gq137, .ref gq138, .ref gq172, .ref gq184, .ref gq150, .ref gq161, .int (-1)])), (gq172, .inr (10, [.int 0, .int 0, .int 0, .ref gq173, .ref gq150, .ref gq13, .ref gq138, .ref gq175, .int 0, .int 0, .ref gq176, .ref gq177, .ref gq178, .ref gq179, .ref gq180, .ref gq181, .ref gq182, .int 0, .ref gq183, .int 0])), (gq173, .inl (gc174, 16, .inl (fun _ => 0)))]) hD hS hA [0, 1, 2] rfl
  refine va_calli (va_runV (As := [.int p0]) (rest := [.int 0, .ref go]) ⟨hx, hb, hml, hown, hts⟩ (kX11_word_c l dC dI (gx := gx) (gq1 := gq1) (gq4 := gq4) (gq13 := gq13) (gq136 := gq136) (gq137 := gq137) (gq138 := gq138) (gq150 := gq150) (gq161 := gq161) (gq172 := gq172) (gq173 := gq173) (gc174 := gc174) (gq175 := gq175) (gq176 := gq176) (gq177 := gq177) (gq178 := gq178) (gq179 := gq179) (gq180 := gq180) (gq181 := gq181) (gq182 := gq182) (gq183 := gq183) (gq184 := gq184) (p0 := p0) (sz := _) (h1 := h1) (h2 := h2)) (cwV 1 hts (gi_V qw576 qw577 qw578 qw222 (gi_z qw575)) rfl rfl rfl (by decide +kernel) ⟨Nat.le_of_ble_eq_true rfl, Nat.le_of_ble_eq_true rfl⟩) ⟨PRE.blind, va_recv hKc hPc (ci := 11) (q0 := 0) rfl rfl, PRE.of hE hS hFc hPc hKc hDc⟩ rfl rfl hl.1 rfl (lv_room (Nat.le_of_ble_eq_true rfl)) dL_word_4 ⟨Nat.le_of_ble_eq_true rfl, Nat.le_of_ble_eq_true rfl⟩) hS (fun q _ h => hFc q h) hFc (fun r1 u t H locs ht hvm hw hB hz1 hk1 hS => ?_)
  obtain ⟨hP, hD, hK⟩ := JOIN (wr := [(go, .inl (gk, 1, .inr (.inl (fun _ => 0))))]) hP hD hK [0, 1, 2] [3] [1] rfl rfl (by decide) (by decide) rfl hk1 hFc ht hvm hB
  have hP : va_P (dC, dI) cls [(go, .inl (gk, 1, .inr (.inl (fun _ => 0))))] H := hP
  have hD : va_D A [(go, .inl (gk, 1, .inr (.inl (fun _ => 0))))] := hD
  have hK : va_K (dC, dI) cls [(gk, .long)] s := hK
  refine W.widen (k := 0) (n := 0) (Nat.le_of_ble_eq_true rfl) (Nat.le_of_ble_eq_true rfl) ?_
  obtain rfl : r1 = 0 := hw
  refine lv_i2l (v := 0) hx hb dL_word_7 (by decide) ?_
  refine va_last hx hb hK hP hD hS 0 0 rfl rfl (by unfold vp_in; decide +kernel) dL_word_8 (fun H locs hP hD hS => ?_)
  have hP : va_P (dC, dI) cls [(go, .inl (gk, 1, .inr (.inl (vp_updL (fun _ => 0) (Int32.toNatClampNeg 0) 0))))] H := hP
  have hD : va_D A [(go, .inl (gk, 1, .inr (.inl (vp_updL (fun _ => 0) (Int32.toNatClampNeg 0) 0))))] := hD
  obtain ⟨f2, ef2⟩ : ∃ z, z = vp_updL (fun _ => 0) (Int32.toNatClampNeg 0) 0 := ⟨_, rfl⟩
  rw [← ef2] at hP hD
  have hf2 : f2 0 = 0 := by rw [ef2]; rfl
  refine lv_goto (tgt := 15) hx hb dL_word_9 (by decide) ?_
  refine lv_iconst (v := 0) hx hb dL_word_15 (by decide) ?_
  have hP9 : va_P (dC, dI) cls [(go, .inl (gk, 1, .inr (.inl f2)))] H := hP.sub [0] rfl
  have hD9 : va_D A [(go, .inl (gk, 1, .inr (.inl f2)))] := hD.sub [0] (by decide) rfl
  have hK9 : va_K (dC, dI) cls [(gk, .long)] s := hK.sub [0] rfl
  exact W.iret (v := 0) hx hb hr (fun t ht hW => ⟨⟨0, f2, rfl, ⟨rfl, hf2⟩, ⟨by rw [ht]; exact hP9, va_K.moved hW.alike hK9, hD9⟩⟩, hS.F ht⟩) hS.2.2 dL_word_16
set_option maxHeartbeats 4000000 in
set_option maxRecDepth 100000 in
theorem kL_allocate_a {zs : Nat × Nat} (l : Launch) (dC : Nat → ClassId) (dI : Nat → Nat → Nat) (gx : Nat) (gq1 : Nat) (gq4 : Nat) (gq13 : Nat) (gq136 : Nat) (gq137 : Nat) (gq138 : Nat) (gq150 : Nat) (gq161 : Nat) (gq172 : Nat) (gq184 : Nat) (go : Nat) (p0 : Int32) (sz : Nat) (hl9 : l.stackTraces = false) (h1 : p0 < 3) : Met l yL_allocate (wh yL_allocate cL_allocate 4 (Option.some Jvm.ClassFile.FieldType.int) [(0, 9, 12, 19), (0, 9, 15, 13)]) ({ frames := 7, cells := 1, slots := 6, locals := 121 }) (va_Pc [.ref gx, .int p0, .ref go] (PRE zs dC dI [(gx, .inr (11, [.ref gq1, .ref gq4, .ref gq13, .ref gq136, .ref gq137, .ref gq138, .ref gq172, .ref gq184, .ref gq150, .ref gq161, .int (-1)]))] [] sz)) (va_Qi (fun (r : Int32) (_ : Unit) => r = 1) (fun _ t => POST dC dI [] [] (va_A [(gx, .inr (11, [.ref gq1, .ref gq4, .ref gq13, .ref gq136, .ref gq137, .ref gq138, .ref gq172, .ref gq184, .ref gq150, .ref gq161, .int (-1)]))] sz) t) (va_A [(gx, .inr (11, [.ref gq1, .ref gq4, .ref gq13, .ref gq136, .ref gq137, .ref gq138, .ref gq172, .ref gq184, .ref gq150, .ref gq161, .int (-1)]))] sz)) 1 6 (va_A [(gx, .inr (11, [.ref gq1, .ref gq4, .ref gq13, .ref gq136, .ref gq137, .ref gq138, .ref gq172, .ref gq184, .ref gq150, .ref gq161, .int (-1)]))] sz) := by
  refine va_MetW (cc := cL_allocate) (maxL := 4) (ret := (Option.some Jvm.ClassFile.FieldType.int)) (hh := [(0, 9, 12, 19), (0, 9, 15, 13)]) (by decide) rfl ?_
  intro p e s m args below meth c s₁ B hml hv
  obtain ⟨rfl, hsz, hP, hK, hD0, hE⟩ := hv
  have hx := B.exec
  have hb := B.bytes
  have hr := B.returns
  have hts0 := atoms_spec (ws := wh yL_allocate cL_allocate 4 (Option.some Jvm.ClassFile.FieldType.int) [(0, 9, 12, 19), (0, 9, 15, 13)]) B.pre
  have htab := vx_table B (hts0 _ List.mem_cons_self)
  have hts : ∀ w ∈ gw, w.before _ s = true := fun w h => hts0 w (List.mem_cons_of_mem _ h)
  have hown : s.vm.findClass RL = some m.cls := findClass_of_methodNamed B.named
  have hlocks := B.notSynchronized
  subst hsz
  have hD := hD0.self (sz := s.heap.size)
  generalize hAe : va_A [(gx, .inr (11, [.ref gq1, .ref gq4, .ref gq13, .ref gq136, .ref gq137, .ref gq138, .ref gq172, .ref gq184, .ref gq150, .ref gq161, .int (-1)]))] s.heap.size = A at hD hE ⊢
  have hA : ∀ q : Nat, s.heap.size ≤ q → A q := fun q h => by rw [← hAe]; exact Or.inr h
  have hS : va_S A s.heap s.heap [] := va_S.rf
  have hP : va_P (dC, dI) cls [(gx, .inr (11, [.ref gq1, .ref gq4, .ref gq13, .ref gq136, .ref gq137, .ref gq138, .ref gq172, .ref gq184, .ref gq150, .ref gq161, .int (-1)]))] s.heap := hP
  have hl := lv_entry ([.ref gx, .int p0, .ref go]) (n := 4) (Nat.le_of_ble_eq_true rfl)
  rw [lg_entry_eq]
  generalize (lg_sl ([.ref gx, .int p0, .ref go]) ++ List.replicate (4 - (lg_sl ([.ref gx, .int p0, .ref go])).length) Slot.unset).toArray = ls at hl ⊢
  have hl : lv_has ls 4 [(0, .ref gx), (1, .int p0), (2, .ref go)] := hl
  refine lv_aload_n hx hb dL_allocate_0 rfl (lv_at hl 2 rfl) ?_
  refine lv_iconst (v := 0) hx hb dL_allocate_1 (by decide) ?_
  refine lv_aload_n hx hb dL_allocate_2 rfl (lv_at hl 0 rfl) ?_
  refine lv_iload_n hx hb dL_allocate_3 rfl (lv_at hl 1 rfl) ?_
  have hPc := hP.sub (ws' := [(gx, .inr (11, [.ref gq1, .ref gq4, .ref gq13, .ref gq136, .ref gq137, .ref gq138, .ref gq172, .ref gq184, .ref gq150, .ref gq161, .int (-1)]))]) [0] rfl
  have hDc := hD.sub (ws' := [(gx, .inr (11, [.ref gq1, .ref gq4, .ref gq13, .ref gq136, .ref gq137, .ref gq138, .ref gq172, .ref gq184, .ref gq150, .ref gq161, .int (-1)]))]) [0] (by decide) rfl
  have hKc := hK.sub (tys' := []) [] rfl
  have hFc := va_free (wc := [(gx, .inr (11, [.ref gq1, .ref gq4, .ref gq13, .ref gq136, .ref gq137, .ref gq138, .ref gq172, .ref gq184, .ref gq150, .ref gq161, .int (-1)]))]) hD hS hA [0] rfl
  refine vx_calli (vx_runV (As := [.int p0]) (rest := [.int 0, .ref go]) ⟨hx, hb, hml, hown, hts⟩ (kX11_allocate_a l dC dI (gx := gx) (gq1 := gq1) (gq4 := gq4) (gq13 := gq13) (gq136 := gq136) (gq137 := gq137) (gq138 := gq138) (gq150 := gq150) (gq161 := gq161) (gq172 := gq172) (gq184 := gq184) (p0 := p0) (sz := _) (hl9 := hl9) (h1 := h1)) (cwV 1 hts (gi_V qw580 qw581 qw582 qw222 (gi_z qw579)) rfl rfl rfl (by decide +kernel) ⟨Nat.le_of_ble_eq_true rfl, Nat.le_of_ble_eq_true rfl⟩) ⟨PRE.blind, va_recv hKc hPc (ci := 11) (q0 := 0) rfl rfl, PRE.of hE hS hFc hPc hKc hDc⟩ rfl rfl hl.1 rfl (lv_room (Nat.le_of_ble_eq_true rfl)) dL_allocate_4 ⟨Nat.le_of_ble_eq_true rfl, Nat.le_of_ble_eq_true rfl⟩) hS (fun q _ h => hFc q h) hFc (fun q _ h => hFc q h) (fun E ce q9 u t H locs ht hvm hw hB hz1 hk1 hS hce hcv hcl => ?_) (fun _ u t H locs ht hvm hw hB hz1 hk1 hS => hw.elim)
  obtain ⟨rfl, hB⟩ := hB
  obtain ⟨hP, hD, hK⟩ := JOIN (wr := []) hP hD hK [0] [] [] rfl rfl (by decide) (by decide) rfl hk1 hFc ht hvm hB
  have hP : va_P (dC, dI) cls [] H := hP
  have hD : va_D A [] := hD
  have hK : va_K (dC, dI) cls [] s := hK
  refine vx_widen (k := 1) (n := 6) (Nat.le_of_ble_eq_true rfl) (Nat.le_of_ble_eq_true rfl) ?_
  refine vx_catch (own := RL) (name := "java/lang/IllegalArgumentException") hown [] ⟨0, 9, 12, 19⟩ [⟨0, 9, 15, 13⟩] (htab.trans rfl) (fun z hz => by cases hz) (by decide) (by decide) (hts _ qw457) (hE.word (List.mem_append_right _ (tbl_5 (i := 1) rfl)) rfl) hce hcv hcl ?_
  refine lv_astore_n (lv' := [(3, .ref q9), (0, .ref gx), (1, .int p0), (2, .ref go)]) hx hb dL_allocate_12 rfl hl (by decide) rfl (fun ls hl => ?_)
  refine lv_iconst (v := 1) hx hb dL_allocate_13 (by decide) ?_
  have hP9 : va_P (dC, dI) cls [] H := hP.sub [] rfl
  have hD9 : va_D A [] := hD.sub [] (by decide) rfl
  have hK9 : va_K (dC, dI) cls [] s := hK.sub [] rfl
  exact W.iret (v := 1) hx hb hr (fun t ht hW => ⟨⟨1, (), rfl, rfl, ⟨by rw [ht]; exact hP9, va_K.moved hW.alike hK9, hD9⟩⟩, hS.F ht⟩) hS.2.2 dL_allocate_14
set_option maxHeartbeats 4000000 in
set_option maxRecDepth 100000 in
theorem kL_allocate_b {zs : Nat × Nat} (l : Launch) (dC : Nat → ClassId) (dI : Nat → Nat → Nat) (gx : Nat) (gq1 : Nat) (gq4 : Nat) (gq13 : Nat) (gq136 : Nat) (gq137 : Nat) (gq138 : Nat) (gq150 : Nat) (gq161 : Nat) (gq172 : Nat) (gq184 : Nat) (go : Nat) (p0 : Int32) (sz : Nat) (hl9 : l.stackTraces = false) (h1 : ¬ p0 < 3) (h2 : 8 < p0) : Met l yL_allocate (wh yL_allocate cL_allocate 4 (Option.some Jvm.ClassFile.FieldType.int) [(0, 9, 12, 19), (0, 9, 15, 13)]) ({ frames := 7, cells := 1, slots := 6, locals := 121 }) (va_Pc [.ref gx, .int p0, .ref go] (PRE zs dC dI [(gx, .inr (11, [.ref gq1, .ref gq4, .ref gq13, .ref gq136, .ref gq137, .ref gq138, .ref gq172, .ref gq184, .ref gq150, .ref gq161, .int (-1)]))] [] sz)) (va_Qi (fun (r : Int32) (_ : Unit) => r = 1) (fun _ t => POST dC dI [] [] (va_A [(gx, .inr (11, [.ref gq1, .ref gq4, .ref gq13, .ref gq136, .ref gq137, .ref gq138, .ref gq172, .ref gq184, .ref gq150, .ref gq161, .int (-1)]))] sz) t) (va_A [(gx, .inr (11, [.ref gq1, .ref gq4, .ref gq13, .ref gq136, .ref gq137, .ref gq138, .ref gq172, .ref gq184, .ref gq150, .ref gq161, .int (-1)]))] sz)) 1 6 (va_A [(gx, .inr (11, [.ref gq1, .ref gq4, .ref gq13, .ref gq136, .ref gq137, .ref gq138, .ref gq172, .ref gq184, .ref gq150, .ref gq161, .int (-1)]))] sz) := by
  refine va_MetW (cc := cL_allocate) (maxL := 4) (ret := (Option.some Jvm.ClassFile.FieldType.int)) (hh := [(0, 9, 12, 19), (0, 9, 15, 13)]) (by decide) rfl ?_
  intro p e s m args below meth c s₁ B hml hv
  obtain ⟨rfl, hsz, hP, hK, hD0, hE⟩ := hv
  have hx := B.exec
  have hb := B.bytes
  have hr := B.returns
  have hts0 := atoms_spec (ws := wh yL_allocate cL_allocate 4 (Option.some Jvm.ClassFile.FieldType.int) [(0, 9, 12, 19), (0, 9, 15, 13)]) B.pre
  have htab := vx_table B (hts0 _ List.mem_cons_self)
  have hts : ∀ w ∈ gw, w.before _ s = true := fun w h => hts0 w (List.mem_cons_of_mem _ h)
  have hown : s.vm.findClass RL = some m.cls := findClass_of_methodNamed B.named
  have hlocks := B.notSynchronized
  subst hsz
  have hD := hD0.self (sz := s.heap.size)
  generalize hAe : va_A [(gx, .inr (11, [.ref gq1, .ref gq4, .ref gq13, .ref gq136, .ref gq137, .ref gq138, .ref gq172, .ref gq184, .ref gq150, .ref gq161, .int (-1)]))] s.heap.size = A at hD hE ⊢
  have hA : ∀ q : Nat, s.heap.size ≤ q → A q := fun q h => by rw [← hAe]; exact Or.inr h
  have hS : va_S A s.heap s.heap [] := va_S.rf
  have hP : va_P (dC, dI) cls [(gx, .inr (11, [.ref gq1, .ref gq4, .ref gq13, .ref gq136, .ref gq137, .ref gq138, .ref gq172, .ref gq184, .ref gq150, .ref gq161, .int (-1)]))] s.heap := hP
  have hl := lv_entry ([.ref gx, .int p0, .ref go]) (n := 4) (Nat.le_of_ble_eq_true rfl)
  rw [lg_entry_eq]
  generalize (lg_sl ([.ref gx, .int p0, .ref go]) ++ List.replicate (4 - (lg_sl ([.ref gx, .int p0, .ref go])).length) Slot.unset).toArray = ls at hl ⊢
  have hl : lv_has ls 4 [(0, .ref gx), (1, .int p0), (2, .ref go)] := hl
  refine lv_aload_n hx hb dL_allocate_0 rfl (lv_at hl 2 rfl) ?_
  refine lv_iconst (v := 0) hx hb dL_allocate_1 (by decide) ?_
  refine lv_aload_n hx hb dL_allocate_2 rfl (lv_at hl 0 rfl) ?_
  refine lv_iload_n hx hb dL_allocate_3 rfl (lv_at hl 1 rfl) ?_
  have hPc := hP.sub (ws' := [(gx, .inr (11, [.ref gq1, .ref gq4, .ref gq13, .ref gq136, .ref gq137, .ref gq138, .ref gq172, .ref gq184, .ref gq150, .ref gq161, .int (-1)]))]) [0] rfl
  have hDc := hD.sub (ws' := [(gx, .inr (11, [.ref gq1, .ref gq4, .ref gq13, .ref gq136, .ref gq137, .ref gq138, .ref gq172, .ref gq184, .ref gq150, .ref gq161, .int (-1)]))]) [0] (by decide) rfl
  have hKc := hK.sub (tys' := []) [] rfl
  have hFc := va_free (wc := [(gx, .inr (11, [.ref gq1, .ref gq4, .ref gq13, .ref gq136, .ref gq137, .ref gq138, .ref gq172, .ref gq184, .ref gq150, .ref gq161, .int (-1)]))]) hD hS hA [0] rfl
  refine vx_calli (vx_runV (As := [.int p0]) (rest := [.int 0, .ref go]) ⟨hx, hb, hml, hown, hts⟩ (kX11_allocate_b l dC dI (gx := gx) (gq1 := gq1) (gq4 := gq4) (gq13 := gq13) (gq136 := gq136) (gq137 := gq137) (gq138 := gq138) (gq150 := gq150) (gq161 := gq161) (gq172 := gq172) (gq184 := gq184) (p0 := p0) (sz := _) (hl9 := hl9) (h1 := h1) (h2 := h2)) (cwV 1 hts (gi_V qw580 qw581 qw582 qw222 (gi_z qw579)) rfl rfl rfl (by decide +kernel) ⟨Nat.le_of_ble_eq_true rfl, Nat.le_of_ble_eq_true rfl⟩) ⟨PRE.blind, va_recv hKc hPc (ci := 11) (q0 := 0) rfl rfl, PRE.of hE hS hFc hPc hKc hDc⟩ rfl rfl hl.1 rfl (lv_room (Nat.le_of_ble_eq_true rfl)) dL_allocate_4 ⟨Nat.le_of_ble_eq_true rfl, Nat.le_of_ble_eq_true rfl⟩) hS (fun q _ h => hFc q h) hFc (fun q _ h => hFc q h) (fun E ce q9 u t H locs ht hvm hw hB hz1 hk1 hS hce hcv hcl => ?_) (fun _ u t H locs ht hvm hw hB hz1 hk1 hS => hw.elim)
  obtain ⟨rfl, hB⟩ := hB
  obtain ⟨hP, hD, hK⟩ := JOIN (wr := []) hP hD hK [0] [] [] rfl rfl (by decide) (by decide) rfl hk1 hFc ht hvm hB
  have hP : va_P (dC, dI) cls [] H := hP
  have hD : va_D A [] := hD
  have hK : va_K (dC, dI) cls [] s := hK
  refine vx_widen (k := 1) (n := 6) (Nat.le_of_ble_eq_true rfl) (Nat.le_of_ble_eq_true rfl) ?_
  refine vx_catch (own := RL) (name := "java/lang/IllegalArgumentException") hown [] ⟨0, 9, 12, 19⟩ [⟨0, 9, 15, 13⟩] (htab.trans rfl) (fun z hz => by cases hz) (by decide) (by decide) (hts _ qw457) (hE.word (List.mem_append_right _ (tbl_5 (i := 1) rfl)) rfl) hce hcv hcl ?_
  refine lv_astore_n (lv' := [(3, .ref q9), (0, .ref gx), (1, .int p0), (2, .ref go)]) hx hb dL_allocate_12 rfl hl (by decide) rfl (fun ls hl => ?_)
  refine lv_iconst (v := 1) hx hb dL_allocate_13 (by decide) ?_
  have hP9 : va_P (dC, dI) cls [] H := hP.sub [] rfl
  have hD9 : va_D A [] := hD.sub [] (by decide) rfl
  have hK9 : va_K (dC, dI) cls [] s := hK.sub [] rfl
  exact W.iret (v := 1) hx hb hr (fun t ht hW => ⟨⟨1, (), rfl, rfl, ⟨by rw [ht]; exact hP9, va_K.moved hW.alike hK9, hD9⟩⟩, hS.F ht⟩) hS.2.2 dL_allocate_14
set_option maxHeartbeats 4000000 in
set_option maxRecDepth 100000 in
theorem kL_allocate_c {zs : Nat × Nat} (l : Launch) (dC : Nat → ClassId) (dI : Nat → Nat → Nat) (gx : Nat) (gq1 : Nat) (gq4 : Nat) (gq13 : Nat) (gq136 : Nat) (gq137 : Nat) (gq138 : Nat) (gq150 : Nat) (gq151 : Nat) (gq152 : Nat) (gq153 : Nat) (gq154 : Nat) (gq155 : Nat) (gq156 : Nat) (gq157 : Nat) (gq158 : Nat) (gq159 : Nat) (gq160 : Nat) (gq161 : Nat) (gq172 : Nat) (gq184 : Nat) (go : Nat) (p0 : Int32) (sz : Nat) (hl9 : l.stackTraces = false) (h1 : ¬ p0 < 3) (h2 : ¬ 8 < p0) : Met l yL_allocate (wh yL_allocate cL_allocate 4 (Option.some Jvm.ClassFile.FieldType.int) [(0, 9, 12, 19), (0, 9, 15, 13)]) ({ frames := 7, cells := 1, slots := 6, locals := 121 }) (va_Pc [.ref gx, .int p0, .ref go] (PRE zs dC dI [(gx, .inr (11, [.ref gq1, .ref gq4, .ref gq13, .ref gq136, .ref gq137, .ref gq138, .ref gq172, .ref gq184, .ref gq150, .ref gq161, .int (-1)])), (gq150, .inr (2, [.int 0, .ref gq151, .ref gq152, .ref gq153, .ref gq154, .ref gq155, .ref gq156, .int 0, .ref gq157, .ref gq158, .ref gq159, .int 0, .ref gq160]))] [] sz)) (va_Qi (fun (r : Int32) (_ : Unit) => r = 2) (fun _ t => POST dC dI [] [] (va_A [(gx, .inr (11, [.ref gq1, .ref gq4, .ref gq13, .ref gq136, .ref gq137, .ref gq138, .ref gq172, .ref gq184, .ref gq150, .ref gq161, .int (-1)])), (gq150, .inr (2, [.int 0, .ref gq151, .ref gq152, .ref gq153, .ref gq154, .ref gq155, .ref gq156, .int 0, .ref gq157, .ref gq158, .ref gq159, .int 0, .ref gq160]))] sz) t) (va_A [(gx, .inr (11, [.ref gq1, .ref gq4, .ref gq13, .ref gq136, .ref gq137, .ref gq138, .ref gq172, .ref gq184, .ref gq150, .ref gq161, .int (-1)])), (gq150, .inr (2, [.int 0, .ref gq151, .ref gq152, .ref gq153, .ref gq154, .ref gq155, .ref gq156, .int 0, .ref gq157, .ref gq158, .ref gq159, .int 0, .ref gq160]))] sz)) 1 6 (va_A [(gx, .inr (11, [.ref gq1, .ref gq4, .ref gq13, .ref gq136, .ref gq137, .ref gq138, .ref gq172, .ref gq184, .ref gq150, .ref gq161, .int (-1)])), (gq150, .inr (2, [.int 0, .ref gq151, .ref gq152, .ref gq153, .ref gq154, .ref gq155, .ref gq156, .int 0, .ref gq157, .ref gq158, .ref gq159, .int 0, .ref gq160]))] sz) := by
  refine va_MetW (cc := cL_allocate) (maxL := 4) (ret := (Option.some Jvm.ClassFile.FieldType.int)) (hh := [(0, 9, 12, 19), (0, 9, 15, 13)]) (by decide) rfl ?_
  intro p e s m args below meth c s₁ B hml hv
  obtain ⟨rfl, hsz, hP, hK, hD0, hE⟩ := hv
  have hx := B.exec
  have hb := B.bytes
  have hr := B.returns
  have hts0 := atoms_spec (ws := wh yL_allocate cL_allocate 4 (Option.some Jvm.ClassFile.FieldType.int) [(0, 9, 12, 19), (0, 9, 15, 13)]) B.pre
  have htab := vx_table B (hts0 _ List.mem_cons_self)
  have hts : ∀ w ∈ gw, w.before _ s = true := fun w h => hts0 w (List.mem_cons_of_mem _ h)
  have hown : s.vm.findClass RL = some m.cls := findClass_of_methodNamed B.named
  have hlocks := B.notSynchronized
  subst hsz
  have hD := hD0.self (sz := s.heap.size)
  generalize hAe : va_A [(gx, .inr (11, [.ref gq1, .ref gq4, .ref gq13, .ref gq136, .ref gq137, .ref gq138, .ref gq172, .ref gq184, .ref gq150, .ref gq161, .int (-1)])), (gq150, .inr (2, [.int 0, .ref gq151, .ref gq152, .ref gq153, .ref gq154, .ref gq155, .ref gq156, .int 0, .ref gq157, .ref gq158, .ref gq159, .int 0, .ref gq160]))] s.heap.size = A at hD hE ⊢
  have hA : ∀ q : Nat, s.heap.size ≤ q → A q := fun q h => by rw [← hAe]; exact Or.inr h
  have hS : va_S A s.heap s.heap [] := va_S.rf
  have hP : va_P (dC, dI) cls [(gx, .inr (11, [.ref gq1, .ref gq4, .ref gq13, .ref gq136, .ref gq137, .ref gq138, .ref gq172, .ref gq184, .ref gq150, .ref gq161, .int (-1)])), (gq150, .inr (2, [.int 0, .ref gq151, .ref gq152, .ref gq153, .ref gq154, .ref gq155, .ref gq156, .int 0, .ref gq157, .ref gq158, .ref gq159, .int 0, .ref gq160]))] s.heap := hP
  have hl := lv_entry ([.ref gx, .int p0, .ref go]) (n := 4) (Nat.le_of_ble_eq_true rfl)
  rw [lg_entry_eq]
  generalize (lg_sl ([.ref gx, .int p0, .ref go]) ++ List.replicate (4 - (lg_sl ([.ref gx, .int p0, .ref go])).length) Slot.unset).toArray = ls at hl ⊢
  have hl : lv_has ls 4 [(0, .ref gx), (1, .int p0), (2, .ref go)] := hl
  refine lv_aload_n hx hb dL_allocate_0 rfl (lv_at hl 2 rfl) ?_
  refine lv_iconst (v := 0) hx hb dL_allocate_1 (by decide) ?_
  refine lv_aload_n hx hb dL_allocate_2 rfl (lv_at hl 0 rfl) ?_
  refine lv_iload_n hx hb dL_allocate_3 rfl (lv_at hl 1 rfl) ?_
  have hPc := hP.sub (ws' := [(gx, .inr (11, [.ref gq1, .ref gq4, .ref gq13, .ref gq136, .ref gq137, .ref gq138, .ref gq172, .ref gq184, .ref gq150, .ref gq161, .int (-1)])), (gq150, .inr (2, [.int 0, .ref gq151, .ref gq152, .ref gq153, .ref gq154, .ref gq155, .ref gq156, .int 0, .ref gq157, .ref gq158, .ref gq159, .int 0, .ref gq160]))]) [0, 1] rfl
  have hDc := hD.sub (ws' := [(gx, .inr (11, [.ref gq1, .ref gq4, .ref gq13, .ref gq136, .ref gq137, .ref gq138, .ref gq172, .ref gq184, .ref gq150, .ref gq161, .int (-1)])), (gq150, .inr (2, [.int 0, .ref gq151, .ref gq152, .ref gq153, .ref gq154, .ref gq155, .ref gq156, .int 0, .ref gq157, .ref gq158, .ref gq159, .int 0, .ref gq160]))]) [0, 1] (by decide) rfl
  have hKc := hK.sub (tys' := []) [] rfl
  have hFc := va_free (wc := [(gx, .inr (11, [.ref gq1, .ref gq4, .ref gq13, .ref gq136, .ref gq137, .ref gq138, .ref gq172, .ref gq184, .ref gq150, .ref gq161, .int (-1)])), (gq150, .inr (2, [.int 0, .ref gq151, .ref gq152, .ref gq153, .ref gq154, .ref gq155, .ref gq156, .int 0, .ref gq157, .ref gq158, .ref gq159, .int 0, .ref gq160]))]) hD hS hA [0, 1] rfl
  refine vx_calli (vx_runV (As := [.int p0]) (rest := [.int 0, .ref go]) ⟨hx, hb, hml, hown, hts⟩ (kX11_allocate_c l dC dI (gx := gx) (gq1 := gq1) (gq4 := gq4) (gq13 := gq13) (gq136 := gq136) (gq137 := gq137) (gq138 := gq138) (gq150 := gq150) (gq151 := gq151) (gq152 := gq152) (gq153 := gq153) (gq154 := gq154) (gq155 := gq155) (gq156 := gq156) (gq157 := gq157) (gq158 := gq158) (gq159 := gq159) (gq160 := gq160) (gq161 := gq161) (gq172 := gq172) (gq184 := gq184) (p0 := p0) (sz := _) (hl9 := hl9) (h1 := h1) (h2 := h2)) (cwV 1 hts (gi_V qw580 qw581 qw582 qw222 (gi_z qw579)) rfl rfl rfl (by decide +kernel) ⟨Nat.le_of_ble_eq_true rfl, Nat.le_of_ble_eq_true rfl⟩) ⟨PRE.blind, va_recv hKc hPc (ci := 11) (q0 := 0) rfl rfl, PRE.of hE hS hFc hPc hKc hDc⟩ rfl rfl hl.1 rfl (lv_room (Nat.le_of_ble_eq_true rfl)) dL_allocate_4 ⟨Nat.le_of_ble_eq_true rfl, Nat.le_of_ble_eq_true rfl⟩) hS (fun q _ h => hFc q h) hFc (fun q _ h => hFc q h) (fun E ce q9 u t H locs ht hvm hw hB hz1 hk1 hS hce hcv hcl => ?_) (fun _ u t H locs ht hvm hw hB hz1 hk1 hS => hw.elim)
  obtain ⟨rfl, hB⟩ := hB
  obtain ⟨hP, hD, hK⟩ := JOIN (wr := []) hP hD hK [0, 1] [] [] rfl rfl (by decide) (by decide) rfl hk1 hFc ht hvm hB
  have hP : va_P (dC, dI) cls [] H := hP
  have hD : va_D A [] := hD
  have hK : va_K (dC, dI) cls [] s := hK
  refine vx_widen (k := 1) (n := 6) (Nat.le_of_ble_eq_true rfl) (Nat.le_of_ble_eq_true rfl) ?_
  refine vx_catch (own := RL) (name := "java/lang/IllegalStateException") hown [⟨0, 9, 12, 19⟩] ⟨0, 9, 15, 13⟩ [] (htab.trans rfl) (fun z hz => by
    simp only [List.mem_cons, List.not_mem_nil, or_false] at hz
    subst hz
    exact Or.inr ⟨by decide, "java/lang/IllegalArgumentException", (hts _ qw457), hE.2.2.2.2.2.1⟩) (by decide) (by decide) (hts _ qw583) (hE.word (List.mem_append_right _ (tbl_8 (i := 235) rfl)) rfl) hce hcv hcl ?_
  refine lv_astore_n (lv' := [(3, .ref q9), (0, .ref gx), (1, .int p0), (2, .ref go)]) hx hb dL_allocate_15 rfl hl (by decide) rfl (fun ls hl => ?_)
  refine lv_iconst (v := 2) hx hb dL_allocate_16 (by decide) ?_
  have hP9 : va_P (dC, dI) cls [] H := hP.sub [] rfl
  have hD9 : va_D A [] := hD.sub [] (by decide) rfl
  have hK9 : va_K (dC, dI) cls [] s := hK.sub [] rfl
  exact W.iret (v := 2) hx hb hr (fun t ht hW => ⟨⟨2, (), rfl, rfl, ⟨by rw [ht]; exact hP9, va_K.moved hW.alike hK9, hD9⟩⟩, hS.F ht⟩) hS.2.2 dL_allocate_17
