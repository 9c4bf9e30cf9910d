theorem qw1687 : Cond.methodLink RLW 78 yJ4_append_15ec4 ∈ gw := mq_11 (i := 89) rfl rfl
theorem qw1688 : Cond.methodLink RLW 84 yJ4_append_bf812 ∈ gw := mq_11 (i := 90) rfl rfl
/-! a String that was made is read only from then on -/
theorem sq9_mv {a v n : Nat} {f : RI} {A : Nat → Prop} {s U : State} {H : Heap} (h : sq9 a v n f A s H) (hal : s.vm.Alike U.vm) : sq9 a v n f A U H := ⟨h.1.moved hal, h.2.1.moved hal, h.2.2.1.moved hal, h.2.2.2.1.moved hal, h.2.2.2.2⟩
theorem sq9_w {dC : Nat → ClassId} {dI : Nat → Nat → Nat} {A : Nat → Prop} {s : State} {H : Heap} {args : Array Value} {ws : va_W} {tys : List (ClassId × FieldType)} (hts : ∀ w ∈ gw, w.before args s = true) (hK : va_K (dC, dI) cls tys s) (hP : va_P (dC, dI) cls ws H) (i j t : Nat) {a v n : Nat} {k : ClassId} {f : RI} {h z : Value} (ha : ws[i]? = some (a, .inr (13, [.ref v, .int 0, h, z]))) (hv : ws[j]? = some (v, .inl (k, n, .inl f))) (ht : tys[t]? = some (k, .byte)) (hn : n < 2147483648) (hf : ∀ j, j < n → fits .byte (.int (f j)) = true) (h1 : ¬ A a) (h2 : ¬ A v) : sq9 a v n f A s H := by
  obtain ⟨r, g1, cell, q1, q2, q3, q4⟩ := hP i _ ha
  have hr : r = (RJ0, TJ0, 4) := Option.some.inj (g1.symm.trans rfl)
  subst hr
  obtain ⟨hS, hfc, kC, hkC, hkind⟩ := hK.1 13 (RJ0, TJ0, 4) rfl
  have hS0 := hS
  obtain ⟨cf, kf, fi, f1, hi, hsl⟩ := hS 1 (by decide)
  obtain ⟨cf0, kf0, fi0, f0, hi0, hsl0⟩ := hS0 0 (by decide)
  have st1 := (u_facts hfc hkC (u_lays hts i_J0 (by decide : 1 < 4)) hi).1
  have st0 := (u_facts hfc hkC (u_lays hts i_J0 (by decide : 0 < 4)) hi0).1
  have hv0 := hP j _ hv
  have hA0 := (hK.2 t _ ht).1 n (fun j => .int (f j))
  refine ⟨⟨cell, q1, by rw [q3]; rfl, by rw [q2]; exact hfc, h1⟩, ⟨cf, kf, fi, f1, cell, hi, st1, q1, (by rw [q3]; exact fun h => (by cases h)), (by rw [hsl, q4 1 (by decide)]; rfl), h1⟩, ⟨cf0, kf0, fi0, f0, cell, hi0, st0, q1, (by rw [q3]; exact fun h => (by cases h)), (by rw [hsl0, q4 0 (by decide)]; rfl), h1⟩, ⟨arrV k n (fun j => .int (f j)), ?_, hA0, (fun h => (by cases h)), Nat.le_of_eq (arrV_size _ _ _).symm, congrArg Nat.toInt32 (arrV_size _ _ _), fun q hq => arrV_read _ _ hq, h2⟩, hn, hf⟩
  have hv1 : H[v]? = some (vp_cell k (n, .inl f)) := hv0
  rw [vp_cell_i] at hv1
  exact hv1
theorem PRE.add {zs X : ZS} {dC : Nat → ClassId} {dI : Nat → Nat → Nat} {W0 : va_W} {T0 : List (ClassId × FieldType)} {av : List Value} {s : State} {H : Heap} (h : ∀ U : State, U.heap = H → s.WarmedH U.vm → va_Pc av (PRE zs dC dI W0 T0 H.size) av.toArray U) (hX : EXM X) (hq : ∀ U : State, U.heap = H → s.WarmedH U.vm → X (va_A W0 H.size) U H) : ∀ U : State, U.heap = H → s.WarmedH U.vm → va_Pc av (PRE (zA zs X) dC dI W0 T0 H.size) av.toArray U := fun U hU hW => by
  obtain ⟨e0, h0, h1, h2, h3, h4⟩ := h U hU hW
  exact ⟨e0, h0, h1, h2, h3, h4.add hX (by rw [hU]; exact hq U hU hW)⟩
theorem gK_b {K L : Nat} (hK : K ≤ 2000) (hL : L ≤ 1000) : gK K L ≤ 2000 := by unfold gK; split <;> omega
theorem gK_c {K L : Nat} {n n' : Nat → Nat} (h : n 1 = K) (h' : n' 1 = gK K L) (hK : K ≤ 2000) (h16 : 16 ≤ K) (hL : L ≤ 1000) : hcJ4 n n' ≤ 13 ∧ 3 * gcJ4 n n' ≤ 6000 := by
  have h1 := gK_b hK hL
  have h2 := lgP_mono h1
  have h3 := lgP_mono h16
  have h5 : lgP 2000 = 22 := by decide +kernel
  have h6 : lgP 16 = 9 := by decide +kernel
  unfold hcJ4 gcJ4
  rw [h, h']
  omega
theorem vK_nil9 {D : va_G} {cl : List vw_C} {L : List (List (ClassId × FieldType))} {U : State} (h : va_K D cl (List.flatten L) U) : va_K D cl (List.flatten ([] :: L)) U := h
theorem vout {D : va_G} {cl : List vw_C} {A : Nat → Prop} {wc wr : va_W} {H : Heap} (hD : va_D A (wc ++ wr)) (hP : va_P D cl (wc ++ wr) H) : ∀ x ∈ wr, ¬ va_A wc H.size x.1 := by
  intro x hx h
  have hr := vP_r hP
  have hpa := List.pairwise_append.mp (vD_iff.mp hD).1
  rcases h with ⟨k, e, h⟩ | h
  · exact hpa.2.2 (x.1, e) (List.mem_of_getElem? h) x hx rfl
  · obtain ⟨i, hi⟩ := List.getElem?_of_mem hx
    exact absurd ((hr i x hi).lt) (Nat.not_lt.mpr h)
theorem zp_x2 {aK aV : Nat → Nat} {aN aO dOv dTv xv xm : Nat} {xf : RI} {zs : ZS} {A : Nat → Prop} {s : State} {H : Heap} (h : ENV (ZP aK aV aN aO dOv dTv (zA (zA zs cl9) (xq9 xv xm xf))) A s H) : cl9 A s H := (ENV.ex h).1.1.1.1.1.2
/-- the law's second StringBuilder: it holds t, with room K; the rest of the world as it was -/
def LSX (dC : Nat → ClassId) (dI : Nat → Nat → Nat) (A : Nat → Prop) (q2 K : Nat) (Wr : va_W) (Tr : List (ClassId × FieldType)) (t : List Int32) (s : State) (H : Heap) (locs : List Loc) : Prop :=
  ∃ (ta : Nat → Nat) (tk : Nat → ClassId) (tn : Nat → Nat) (tw : ST), va_P (dC, dI) cls (List.flatten ([oJ4 q2 ta tk tn tw, Wr] : List va_W)) H ∧ va_D A (List.flatten ([oJ4 q2 ta tk tn tw, Wr] : List va_W)) ∧ va_K (dC, dI) cls (List.flatten ([tJ4 tk, Tr] : List (List (ClassId × FieldType)))) s ∧ va_S A s.heap H locs ∧ sb9 K tn tw t ∧ 16 ≤ K ∧ K ≤ 2000
theorem gK_l (K L : Nat) : K ≤ gK K L := by unfold gK; split <;> omega
section LSP
variable {p : Program} {l : Launch} {e : Env} {R : Room} {s : State} {m : MethodId} {args : Array Value} {below : List Frame} {meth : Method} {c : Code} {H : Heap} {locs : List Loc} {Q : State → Prop} {cc : ByteArray} {nL : Nat} {zs : ZS} {dC : Nat → ClassId} {dI : Nat → Nat → Nat} {A : Nat → Prop} {Wr : va_W} {Tr : List (ClassId × FieldType)} {t : List Int32} {q2 K c0 s0 : Nat} {aK aV : Nat → Nat} {aN aO dOv dTv : Nat} {ls : Array Slot} {rest : List Value} {pc : Nat}
theorem ls_apS {a v n : Nat} {f : RI} {x : List Int32} (S : CallFix p m c cc nL s args gw RLW) (hE : ENV (ZP aK aV aN aO dOv dTv zs) A s s.heap) (hA : ∀ q : Nat, s.heap.size ≤ q → A q) (hT : LSX dC dI A q2 K Wr Tr t s H locs) (hq : sq9 a v n f A s s.heap) (hn : n = x.length) (hf : ∀ j, j < n → f j = x.getD j 0) (hx : asc x) (hL : t.length + x.length ≤ 1000) (hRc : c0 + 13 ≤ R.cells) (hRs : s0 + 6000 ≤ R.slots) (hR : 6 ≤ R.frames ∧ 140 ≤ R.locals) (hdg : decode cc pc = .ok (.invokevirtual 78, 3)) (hls : ls.size = nL) (hrm : (rest.map fun v => v.category).sum ≤ 8) (kk : ∀ (H : Heap) (locs : List Loc), LSX dC dI A q2 (gK K (t.length + x.length)) Wr Tr (t ++ x) s H locs → W p l e R s m args below meth c H locs (c0 + 13) (s0 + 6000) Q (F0 m (pc + 3) ls (.ref q2 :: rest))) : W p l e R s m args below meth c H locs c0 s0 Q (F0 m pc ls (.ref a :: .ref q2 :: rest)) := by
  obtain ⟨ta, tk, tn, tw, hP, hD, hK, hS, hsb, hk1, hk2⟩ := hT
  have hts := S.2.2.2.2
  have hk1' := hk1
  obtain ⟨w', n', hrun, hsb'⟩ := sb_str hsb (m := x.length) rfl (f := f) (fun j hj => hf j (by omega)) hx (by omega) (by omega)
  obtain ⟨c1, c2⟩ := gK_c hsb.1.1 hsb'.1.1 hk2 hk1' hL
  have hPx : va_P (dC, dI) cls ((List.flatten ([oJ4 q2 ta tk tn tw] : List va_W)) ++ (List.flatten ([Wr] : List va_W))) H := vP_fa hP
  have hDx : va_D A ((List.flatten ([oJ4 q2 ta tk tn tw] : List va_W)) ++ (List.flatten ([Wr] : List va_W))) := vD_fa hD
  have hKx : va_K (dC, dI) cls ((List.flatten ([tJ4 tk] : List (List (ClassId × FieldType)))) ++ (List.flatten ([Tr] : List (List (ClassId × FieldType))))) s := vK_fa hK
  have hPc := vP_l hPx
  have hDc := vD_l hDx
  have hKc := vK_l hKx
  have hFc := vfree hDx hS hA
  subst hn
  refine va_callr (va_runV (As := [.ref a]) (rest := rest) S (kJ4_append_15ec4 l dC dI (p0a := st0 q2 ta) (p0k := tk) (p0n := tn) (p0w := tw) (p1s := a) (p1v := v) (p1m := x.length) (p1f := f) (sz := _) (o := (w', n')) (hrun := hrun)) (cwV 1 hts (gi_V qw1687 qw1608 qw1609 qw1610 (gi_z qw1611)) rfl rfl rfl (by decide +kernel) ⟨hR.1, Nat.le_trans (m := 140) (Nat.le_of_ble_eq_true rfl) hR.2⟩) ⟨PRE.blind, va_recv hKc hPc (ci := 12) (q0 := 0) rfl rfl, PRE.of (ENV.add (ENV.add hE sq9_m hq) pv9_m (zp_pv hE)) hS hFc hPc hKc hDc⟩ rfl rfl hls rfl (lv_room hrm) hdg ⟨(show c0 + hcJ4 tn n' ≤ R.cells from by omega), (show s0 + 3 * gcJ4 tn n' ≤ R.slots from by omega)⟩) hS (fun q _ h => hFc q h) hFc (fun u r t H locs ht hvm hw hB hz1 hk1 hS => ?_)
  obtain ⟨hra, x1, x2, b1, b2, b3⟩ := hB
  rw [ht] at b1
  obtain rfl : q2 = r := hra.symm
  obtain ⟨hP, hD, hK⟩ := JOINC (wc := (List.flatten ([oJ4 q2 ta tk tn tw] : List va_W))) (wr := (List.flatten ([Wr] : List va_W))) (w1 := (List.flatten ([oJ4 q2 (st1 ta 1 x1) (st1 tk 1 x2) n' w'] : List va_W))) (t1 := (List.flatten ([tJ4 (st1 tk 1 x2)] : List (List (ClassId × FieldType))))) hPx hDx hKx hk1 hFc b1 (va_K.moved hvm.symm b2) b3
  refine W.widen (k := c0 + 13) (n := s0 + 6000) (show c0 + hcJ4 tn n' ≤ _ from by omega) (show s0 + 3 * gcJ4 tn n' ≤ _ from by omega) ?_
  exact kk H locs ⟨_, _, _, _, vP_fb hP, vD_fb hD, vK_fb hK, hS, hsb', Nat.le_trans hk1' (gK_l _ _), gK_b hk2 hL⟩
theorem ls_apM {a v : Nat} {k : ClassId} {f : RI} {x : List Int32} {h z : Value} (S : CallFix p m c cc nL s args gw RLW) (hE : ENV (ZP aK aV aN aO dOv dTv zs) A s s.heap) (hA : ∀ q : Nat, s.heap.size ≤ q → A q) (hT : LSX dC dI A q2 K Wr Tr t s H locs) (m1 : (a, (.inr (13, [.ref v, .int 0, h, z]) : va_E)) ∈ Wr) (m2 : (v, (.inl (k, x.length, .inl f) : va_E)) ∈ Wr) (m3 : (k, FieldType.byte) ∈ Tr) (hf : ∀ j, j < x.length → f j = x.getD j 0) (hfb : ∀ j, fits .byte (.int (f j)) = true) (hx : asc x) (hL : t.length + x.length ≤ 1000) (hRc : c0 + 13 ≤ R.cells) (hRs : s0 + 6000 ≤ R.slots) (hR : 6 ≤ R.frames ∧ 140 ≤ R.locals) (hdg : decode cc pc = .ok (.invokevirtual 78, 3)) (hls : ls.size = nL) (hrm : (rest.map fun v => v.category).sum ≤ 8) (kk : ∀ (H : Heap) (locs : List Loc), LSX dC dI A q2 (gK K (t.length + x.length)) Wr Tr (t ++ x) s H locs → W p l e R s m args below meth c H locs (c0 + 13) (s0 + 6000) Q (F0 m (pc + 3) ls (.ref q2 :: rest))) : W p l e R s m args below meth c H locs c0 s0 Q (F0 m pc ls (.ref a :: .ref q2 :: rest)) := by
  obtain ⟨ta, tk, tn, tw, hP, hD, hK, hS, hsb, hk1, hk2⟩ := hT
  have hts := S.2.2.2.2
  have hk1' := hk1
  obtain ⟨w', n', hrun, hsb'⟩ := sb_str hsb (m := x.length) rfl (f := f) hf hx (by omega) (by omega)
  obtain ⟨c1, c2⟩ := gK_c hsb.1.1 hsb'.1.1 hk2 hk1' hL
  have hPx : va_P (dC, dI) cls ((List.flatten ([oJ4 q2 ta tk tn tw] : List va_W)) ++ (List.flatten ([Wr] : List va_W))) H := vP_fa hP
  have hDx : va_D A ((List.flatten ([oJ4 q2 ta tk tn tw] : List va_W)) ++ (List.flatten ([Wr] : List va_W))) := vD_fa hD
  have hKx : va_K (dC, dI) cls ((List.flatten ([tJ4 tk] : List (List (ClassId × FieldType)))) ++ (List.flatten ([Tr] : List (List (ClassId × FieldType))))) s := vK_fa hK
  have hPc := vP_l hPx
  have hDc := vD_l hDx
  have hKc := vK_l hKx
  have hFc := vfree hDx hS hA
  have m1' : (a, (.inr (13, [.ref v, .int 0, h, z]) : va_E)) ∈ List.flatten ([Wr] : List va_W) := fl_mem 0 rfl m1
  have m2' : (v, (.inl (k, x.length, .inl f) : va_E)) ∈ List.flatten ([Wr] : List va_W) := fl_mem 0 rfl m2
  obtain ⟨i1, hi1⟩ := List.getElem?_of_mem (fl_mem (L := ([oJ4 q2 ta tk tn tw, Wr] : List va_W)) 1 rfl m1)
  obtain ⟨i2, hi2⟩ := List.getElem?_of_mem (fl_mem (L := ([oJ4 q2 ta tk tn tw, Wr] : List va_W)) 1 rfl m2)
  obtain ⟨i3, hi3⟩ := List.getElem?_of_mem (fl_mem (L := ([tJ4 tk, Tr] : List (List (ClassId × FieldType)))) 1 rfl m3)
  have hq := sq9_w hts hK hP i1 i2 i3 hi1 hi2 hi3 (by omega) (fun j _ => hfb j) (vout hDx hPx _ m1') (vout hDx hPx _ m2')
  refine va_callr (va_runV (As := [.ref a]) (rest := rest) S (kJ4_append_15ec4 l dC dI (p0a := st0 q2 ta) (p0k := tk) (p0n := tn) (p0w := tw) (p1s := a) (p1v := v) (p1m := x.length) (p1f := f) (sz := _) (o := (w', n')) (hrun := hrun)) (cwV 1 hts (gi_V qw1687 qw1608 qw1609 qw1610 (gi_z qw1611)) rfl rfl rfl (by decide +kernel) ⟨hR.1, Nat.le_trans (m := 140) (Nat.le_of_ble_eq_true rfl) hR.2⟩) ⟨PRE.blind, va_recv hKc hPc (ci := 12) (q0 := 0) rfl rfl, PRE.add (PRE.add (PRE.of hE hS hFc hPc hKc hDc) sq9_m (fun U hU hW => sq9_mv hq hW.alike)) pv9_m (fun U hU hW => pv9_m A _ s U H locs (zp_pv hE) hS hFc hU hW)⟩ rfl rfl hls rfl (lv_room hrm) hdg ⟨(show c0 + hcJ4 tn n' ≤ R.cells from by omega), (show s0 + 3 * gcJ4 tn n' ≤ R.slots from by omega)⟩) hS (fun q _ h => hFc q h) hFc (fun u r t H locs ht hvm hw hB hz1 hk1 hS => ?_)
  obtain ⟨hra, x1, x2, b1, b2, b3⟩ := hB
  rw [ht] at b1
  obtain rfl : q2 = r := hra.symm
  obtain ⟨hP, hD, hK⟩ := JOINC (wc := (List.flatten ([oJ4 q2 ta tk tn tw] : List va_W))) (wr := (List.flatten ([Wr] : List va_W))) (w1 := (List.flatten ([oJ4 q2 (st1 ta 1 x1) (st1 tk 1 x2) n' w'] : List va_W))) (t1 := (List.flatten ([tJ4 (st1 tk 1 x2)] : List (List (ClassId × FieldType))))) hPx hDx hKx hk1 hFc b1 (va_K.moved hvm.symm b2) b3
  refine W.widen (k := c0 + 13) (n := s0 + 6000) (show c0 + hcJ4 tn n' ≤ _ from by omega) (show s0 + 3 * gcJ4 tn n' ≤ _ from by omega) ?_
  exact kk H locs ⟨_, _, _, _, vP_fb hP, vD_fb hD, vK_fb hK, hS, hsb', Nat.le_trans hk1' (gK_l _ _), gK_b hk2 hL⟩
theorem ls_apI {v : Nat} {i : Int32} (S : CallFix p m c cc nL s args gw RLW) (hE : ENV (ZP aK aV aN aO dOv dTv zs) A s s.heap) (hA : ∀ q : Nat, s.heap.size ≤ q → A q) (hT : LSX dC dI A q2 K Wr Tr t s H locs) (hi : i = pu_I v) (hv : v < 5000) (hL : t.length + (mp_d v).length ≤ 1000) (hRc : c0 + 13 ≤ R.cells) (hRs : s0 + 6000 ≤ R.slots) (hR : 6 ≤ R.frames ∧ 140 ≤ R.locals) (hdg : decode cc pc = .ok (.invokevirtual 84, 3)) (hls : ls.size = nL) (hrm : (rest.map fun v => v.category).sum ≤ 8) (kk : ∀ (H : Heap) (locs : List Loc), LSX dC dI A q2 (gK K (t.length + (mp_d v).length)) Wr Tr (t ++ mp_d v) s H locs → W p l e R s m args below meth c H locs (c0 + 13) (s0 + 6000) Q (F0 m (pc + 3) ls (.ref q2 :: rest))) : W p l e R s m args below meth c H locs c0 s0 Q (F0 m pc ls (.int i :: .ref q2 :: rest)) := by
  obtain ⟨ta, tk, tn, tw, hP, hD, hK, hS, hsb, hk1, hk2⟩ := hT
  have hts := S.2.2.2.2
  have hk1' := hk1
  obtain ⟨w', n', hrun, hsb'⟩ := sb_int hsb hv (by omega) (by omega)
  obtain ⟨c1, c2⟩ := gK_c hsb.1.1 hsb'.1.1 hk2 hk1' hL
  have hPx : va_P (dC, dI) cls ((List.flatten ([oJ4 q2 ta tk tn tw] : List va_W)) ++ (List.flatten ([Wr] : List va_W))) H := vP_fa hP
  have hDx : va_D A ((List.flatten ([oJ4 q2 ta tk tn tw] : List va_W)) ++ (List.flatten ([Wr] : List va_W))) := vD_fa hD
  have hKx : va_K (dC, dI) cls ((List.flatten ([tJ4 tk] : List (List (ClassId × FieldType)))) ++ (List.flatten ([Tr] : List (List (ClassId × FieldType))))) s := vK_fa hK
  have hPc := vP_l hPx
  have hDc := vD_l hDx
  have hKc := vK_l hKx
  have hFc := vfree hDx hS hA
  subst hi
  refine va_callr (va_runV (As := [.int (pu_I v)]) (rest := rest) S (kJ4_append_bf812 l dC dI (p0a := st0 q2 ta) (p0k := tk) (p0n := tn) (p0w := tw) (p1 := pu_I v) (dOv := dOv) (dTv := dTv) (sz := _) (o := (w', n')) (hrun := hrun)) (cwV 1 hts (gi_V qw1688 qw1613 qw1614 qw1610 (gi_z qw1615)) rfl rfl rfl (by decide +kernel) ⟨hR.1, Nat.le_trans (m := 140) (Nat.le_of_ble_eq_true rfl) hR.2⟩) ⟨PRE.blind, va_recv hKc hPc (ci := 12) (q0 := 0) rfl rfl, PRE.of (ENV.add (ENV.add hE pv9_m (zp_pv hE)) dg9_m (zp_dg hE)) hS hFc hPc hKc hDc⟩ rfl rfl hls rfl (lv_room hrm) hdg ⟨(show c0 + hcJ4 tn n' ≤ R.cells from by omega), (show s0 + 3 * gcJ4 tn n' ≤ R.slots from by omega)⟩) hS (fun q _ h => hFc q h) hFc (fun u r t H locs ht hvm hw hB hz1 hk1 hS => ?_)
  obtain ⟨hra, x1, x2, b1, b2, b3⟩ := hB
  rw [ht] at b1
  obtain rfl : q2 = r := hra.symm
  obtain ⟨hP, hD, hK⟩ := JOINC (wc := (List.flatten ([oJ4 q2 ta tk tn tw] : List va_W))) (wr := (List.flatten ([Wr] : List va_W))) (w1 := (List.flatten ([oJ4 q2 (st1 ta 1 x1) (st1 tk 1 x2) n' w'] : List va_W))) (t1 := (List.flatten ([tJ4 (st1 tk 1 x2)] : List (List (ClassId × FieldType))))) hPx hDx hKx hk1 hFc b1 (va_K.moved hvm.symm b2) b3
  refine W.widen (k := c0 + 13) (n := s0 + 6000) (show c0 + hcJ4 tn n' ≤ _ from by omega) (show s0 + 3 * gcJ4 tn n' ≤ _ from by omega) ?_
  exact kk H locs ⟨_, _, _, _, vP_fb hP, vD_fb hD, vK_fb hK, hS, hsb', Nat.le_trans hk1' (gK_l _ _), gK_b hk2 hL⟩
end LSP
