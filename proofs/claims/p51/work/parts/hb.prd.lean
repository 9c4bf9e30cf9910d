theorem qw1608 : Cond.instanceMethod yJ4_append_15ec4 ∈ gw := mq_6 (i := 166) rfl rfl
theorem qw1609 : Cond.selects RJ4 yJ4_append_15ec4 yJ4_append_15ec4 ∈ gw := mq_6 (i := 167) rfl rfl
theorem qw1610 : Cond.initialized RJ4 ∈ gw := mq_1 (i := 3) rfl rfl
theorem qw1611 : Cond.code yJ4_append_15ec4 cJ4_append_15ec4 2 (Option.some (Jvm.ClassFile.FieldType.object "java/lang/StringBuilder")) ∈ gw := mq_6 (i := 168) rfl rfl
theorem qw1612 : Cond.methodLink RX13 47 yJ4_append_15ec4 ∈ gw := mq_10 (i := 181) rfl rfl
theorem qw1613 : Cond.instanceMethod yJ4_append_bf812 ∈ gw := mq_7 (i := 8) rfl rfl
theorem qw1614 : Cond.selects RJ4 yJ4_append_bf812 yJ4_append_bf812 ∈ gw := mq_7 (i := 9) rfl rfl
theorem qw1615 : Cond.code yJ4_append_bf812 cJ4_append_bf812 2 (Option.some (Jvm.ClassFile.FieldType.object "java/lang/StringBuilder")) ∈ gw := mq_7 (i := 10) rfl rfl
theorem qw1616 : Cond.methodLink RX13 134 yJ4_append_bf812 ∈ gw := mq_10 (i := 197) rfl rfl
/-! printing -/
/-- where an operator's text stands among the literals -/
def opK (j : Nat) : Nat := if j ≤ 10 then 26 + j else if j = 11 then 14 else 25 + j
def nm9 (aK : Nat → Nat) (aN aO : Nat) : ZS := fun A U H => (va_Z "GearboxLaw$Made" "NAMES" "[Ljava/lang/String;" (.ref aN) A U H ∧ va_T (.object "java/lang/String") aN 4 (fun j => .ref (aK (42 + j))) A U H) ∧ va_Z "GearboxLaw$Made" "OPS" "[Ljava/lang/String;" (.ref aO) A U H ∧ va_T (.object "java/lang/String") aO 17 (fun j => .ref (aK (opK j))) A U H
theorem nm9_m {aK : Nat → Nat} {aN aO : Nat} : EXM (nm9 aK aN aO) := fun A B s U H locs h hS hAB hU hW => ⟨⟨((h.1.1.kept hS.2.1).narrow hAB).moved hW.alike, ((h.1.2.kept hS.2.1).narrow hAB).moved hW.alike⟩, ((h.2.1.kept hS.2.1).narrow hAB).moved hW.alike, ((h.2.2.kept hS.2.1).narrow hAB).moved hW.alike⟩
def ZP (aK aV : Nat → Nat) (aN aO dOv dTv : Nat) (zs : ZS) : ZS := zA (zA (zA (zA zs (st9 aK aV)) pv9) (dg9 dOv dTv)) (nm9 aK aN aO)
abbrev mdO (a : Nat → Nat) (w : ST) : va_W := [(a 0, .inr (14, [.ref (a 1), .int (w 0 1), .int (w 0 2), .int (w 0 3), .int (w 0 4), .ref (a 6), .ref (a 7), .ref (a 8), .ref (a 9), .int (w 0 9), .int (w 0 10), .int (w 0 11), .int (w 0 12)]))]
def capf (L : Nat) : Nat := if L ≤ 16 then 16 else if L ≤ 34 then 34 else if L ≤ 70 then 70 else if L ≤ 142 then 142 else if L ≤ 286 then 286 else if L ≤ 574 then 574 else 1150
theorem capf_c (L : Nat) : (L ≤ 16 ∧ capf L = 16) ∨ (16 < L ∧ L ≤ 34 ∧ capf L = 34) ∨ (34 < L ∧ L ≤ 70 ∧ capf L = 70) ∨ (70 < L ∧ L ≤ 142 ∧ capf L = 142) ∨ (142 < L ∧ L ≤ 286 ∧ capf L = 286) ∨ (286 < L ∧ L ≤ 574 ∧ capf L = 574) ∨ (574 < L ∧ capf L = 1150) := by
  unfold capf
  split
  · omega
  split
  · omega
  split
  · omega
  split
  · omega
  split
  · omega
  split
  · omega
  · omega
theorem capf_b (L : Nat) : 16 ≤ capf L ∧ capf L ≤ 1150 := by have := capf_c L; omega
theorem capf_ge {L : Nat} (h : L ≤ 1150) : L ≤ capf L := by have := capf_c L; omega
theorem capf_m {L M : Nat} (h : L ≤ M) : capf L ≤ capf M := by have := capf_c L; have := capf_c M; omega
theorem capf_g {L m : Nat} (hm : L + m ≤ 2 * capf L + 2) (h : L + m ≤ 1150) : gK (capf L) (L + m) = capf (L + m) := by
  unfold gK
  have h1 := capf_c L
  have h2 := capf_c (L + m)
  by_cases c : L + m ≤ capf L
  · rw [if_pos c]; omega
  · rw [if_neg c]; omega
/-- what printing b bytes behind t costs -/
def pcl (t b : Nat) : Nat := lgP (capf (t + b)) - lgP (capf t)
def psl (t b : Nat) : Nat := 3 * (capf (t + b) - capf t)
theorem pcl_0 (t : Nat) : pcl t 0 = 0 ∧ psl t 0 = 0 := by unfold pcl psl; rw [Nat.add_zero]; omega
theorem pcl_a (t b c : Nat) : pcl t b + pcl (t + b) c = pcl t (b + c) ∧ psl t b + psl (t + b) c = psl t (b + c) := by
  have a1 := capf_m (show t ≤ t + b by omega)
  have a2 := capf_m (show t + b ≤ t + b + c by omega)
  have b1 := lgP_mono a1
  have b2 := lgP_mono a2
  unfold pcl psl
  rw [← Nat.add_assoc]
  omega
theorem pcl_m {t b c : Nat} (h : b ≤ c) : pcl t b ≤ pcl t c ∧ psl t b ≤ psl t c := by
  have a1 := capf_m (show t + b ≤ t + c by omega)
  have b1 := lgP_mono a1
  unfold pcl psl
  omega
def sp9 (n : Nat → Nat) (w : ST) (t : List Int32) : Prop := sb9 (capf t.length) n w t
theorem sp_str {n : Nat → Nat} {w : ST} {t x : List Int32} {m : Nat} {f : RI} (h : sp9 n w t) (hm : m = x.length) (hf : ∀ j, j < m → f j = x.getD j 0) (hx : asc x) (h18 : t.length + m ≤ 2 * capf t.length + 2) (hL : t.length + m ≤ 1150) : ∃ w' n', fJ4_append_15ec4 n w m f = some (w', n') ∧ sp9 n' w' (t ++ x) ∧ hcJ4 n n' = pcl t.length m ∧ 3 * gcJ4 n n' = psl t.length m := by
  have hb := capf_b t.length
  obtain ⟨w', n', e, h2⟩ := sb_str h hm hf hx (by omega) (by omega)
  rw [capf_g h18 hL] at h2
  have e2 : (t ++ x).length = t.length + m := by rw [List.length_append, hm]
  refine ⟨w', n', e, by unfold sp9; rw [e2]; exact h2, ?_, ?_⟩
  · show lgP (n' 1) - lgP (n 1) = _
    rw [h2.1.1, h.1.1]; rfl
  · show 3 * (n' 1 - n 1) = _
    rw [h2.1.1, h.1.1]; rfl
theorem sp_int {n : Nat → Nat} {w : ST} {t : List Int32} {v : Nat} (h : sp9 n w t) (hv : v < 5000) (hL : t.length + (mp_d v).length ≤ 1150) : ∃ w' n', fJ4_append_bf812 n w (pu_I v) = some (w', n') ∧ sp9 n' w' (t ++ mp_d v) ∧ hcJ4 n n' = pcl t.length (mp_d v).length ∧ 3 * gcJ4 n n' = psl t.length (mp_d v).length := by
  have hb := capf_b t.length
  have hd := sb_dl hv
  obtain ⟨w', n', e, h2⟩ := sb_int h hv (by omega) (by omega)
  have hc := capf_c t.length
  rw [capf_g (by omega) hL] at h2
  have e2 : (t ++ mp_d v).length = t.length + (mp_d v).length := List.length_append
  refine ⟨w', n', e, by unfold sp9; rw [e2]; exact h2, ?_, ?_⟩
  · show lgP (n' 1) - lgP (n 1) = _
    rw [h2.1.1, h.1.1]; rfl
  · show 3 * (n' 1 - n 1) = _
    rw [h2.1.1, h.1.1]; rfl
/-- the world while printing: Made, its StringBuilder that holds t, the tree -/
def TXS (dC : Nat → ClassId) (dI : Nat → Nat → Nat) (A : Nat → Prop) (p0a : Nat → Nat) (p0w : ST) (Wt : va_W) (Tt : List (ClassId × FieldType)) (t : List Int32) (s : State) (H : Heap) (locs : List Loc) : Prop :=
  ∃ (ta : Nat → Nat) (tk : Nat → ClassId) (tn : Nat → Nat) (tw : ST), va_P (dC, dI) cls (List.flatten ([mdO p0a p0w, oJ4 (p0a 6) ta tk tn tw, Wt] : List va_W)) H ∧ va_D A (List.flatten ([mdO p0a p0w, oJ4 (p0a 6) ta tk tn tw, Wt] : List va_W)) ∧ va_K (dC, dI) cls (List.flatten ([[], tJ4 tk, Tt] : List (List (ClassId × FieldType)))) s ∧ va_S A s.heap H locs ∧ sp9 tn tw t
/-- a method that prints bs when it is given arg -/
def PR9 (l : Launch) (aK aV : Nat → Nat) (aN aO dOv dTv : Nat) (y : MethodName) (ws : List Cond) (F L : Nat) (Wt : va_W) (Tt : List (ClassId × FieldType)) (arg : Value) (bs : List Int32) : Prop :=
  ∀ {zs : ZS} (dC : Nat → ClassId) (dI : Nat → Nat → Nat) (p0a : Nat → Nat) (p0w : ST) (t : List Int32) (ta : Nat → Nat) (tk : Nat → ClassId) (tn : Nat → Nat) (tw : ST) (sz : Nat), sp9 tn tw t → t.length + bs.length ≤ 1150 →
    Met l y ws ({ frames := F, cells := pcl t.length bs.length, slots := psl t.length bs.length, locals := L } : Room) (va_Pc [.ref (p0a 0), arg] (PRE (ZP aK aV aN aO dOv dTv zs) dC dI (List.flatten ([mdO p0a p0w, oJ4 (p0a 6) ta tk tn tw, Wt] : List va_W)) (List.flatten ([[], tJ4 tk, Tt] : List (List (ClassId × FieldType)))) sz)) (va_Qv (fun (_ : Unit) => True) (fun _ u => ∃ (ta' : Nat → Nat) (tk' : Nat → ClassId) (tn' : Nat → Nat) (tw' : ST), sp9 tn' tw' (t ++ bs) ∧ POST dC dI (List.flatten ([mdO p0a p0w, oJ4 (p0a 6) ta' tk' tn' tw', Wt] : List va_W)) (List.flatten ([[], tJ4 tk', Tt] : List (List (ClassId × FieldType)))) (va_A (List.flatten ([mdO p0a p0w, oJ4 (p0a 6) ta tk tn tw, Wt] : List va_W)) sz) u) (va_A (List.flatten ([mdO p0a p0w, oJ4 (p0a 6) ta tk tn tw, Wt] : List va_W)) sz)) (pcl t.length bs.length) (psl t.length bs.length) (va_A (List.flatten ([mdO p0a p0w, oJ4 (p0a 6) ta tk tn tw, Wt] : List va_W)) sz)
section TXP
variable {p : Program} {l : Launch} {e : Env} {R : Room} {s : State} {m : MethodId} {args : Array Value} {below : List Frame} {meth : Method} {c : Code} {H : Heap} {locs : List Loc} {Q : State → Prop} {cc : ByteArray} {nL : Nat} {zs : ZS} {dC : Nat → ClassId} {dI : Nat → Nat → Nat} {A : Nat → Prop} {p0a : Nat → Nat} {p0w : ST} {Wt : va_W} {Tt : List (ClassId × FieldType)} {t : List Int32} {t0 b N c0 s0 : Nat} {aK aV : Nat → Nat} {aN aO dOv dTv : Nat} {ls : Array Slot} {rest : List Value} {pc : Nat}
theorem zp_st (h : ENV (ZP aK aV aN aO dOv dTv zs) A s H) : st9 aK aV A s H := (ENV.ex h).1.1.1.2
theorem zp_pv (h : ENV (ZP aK aV aN aO dOv dTv zs) A s H) : pv9 A s H := (ENV.ex h).1.1.2
theorem zp_dg (h : ENV (ZP aK aV aN aO dOv dTv zs) A s H) : dg9 dOv dTv A s H := (ENV.ex h).1.2
theorem zp_nm (h : ENV (ZP aK aV aN aO dOv dTv zs) A s H) : nm9 aK aN aO A s H := (ENV.ex h).2
theorem tx_apS {a v n : Nat} {f : RI} {x : List Int32} (S : CallFix p m c cc nL s args gw RX13) (hE : ENV (ZP aK aV aN aO dOv dTv zs) A s s.heap) (hA : ∀ q : Nat, s.heap.size ≤ q → A q) (hT : TXS dC dI A p0a p0w Wt Tt t s H locs) (hq : sq9 a v n f A s s.heap) (hn : n = x.length) (hf : ∀ j, j < n → f j = x.getD j 0) (hx : asc x) (h18 : x.length ≤ 18 ∨ t.length = 0 ∧ x.length ≤ 34) (htl : t.length = t0 + b) (hN : b + x.length ≤ N) (h0 : t0 + N ≤ 1150) (hR : 6 ≤ R.frames ∧ 140 ≤ R.locals ∧ c0 + pcl t0 N ≤ R.cells ∧ s0 + psl t0 N ≤ R.slots)
    (hdg : decode cc pc = .ok (.invokevirtual 47, 3)) (hls : ls.size = nL) (hrm : (rest.map fun v => v.category).sum ≤ 8) (kk : ∀ (H : Heap) (locs : List Loc), TXS dC dI A p0a p0w Wt Tt (t ++ x) s H locs → W p l e R s m args below meth c H locs (c0 + pcl t0 (b + x.length)) (s0 + psl t0 (b + x.length)) Q (F0 m (pc + 3) ls (.ref (p0a 6) :: rest))) : W p l e R s m args below meth c H locs (c0 + pcl t0 b) (s0 + psl t0 b) Q (F0 m pc ls (.ref a :: .ref (p0a 6) :: rest)) := by
  obtain ⟨ta, tk, tn, tw, hP, hD, hK, hS, hsb⟩ := hT
  have hts := S.2.2.2.2
  obtain ⟨w', n', hrun, hsb', c1, c2⟩ := sp_str hsb hn hf hx (by have := capf_c t.length; omega) (by omega)
  have hPx : va_P (dC, dI) cls ((List.flatten ([oJ4 (p0a 6) ta tk tn tw] : List va_W)) ++ (List.flatten ([mdO p0a p0w, Wt] : List va_W))) H := vP_fa (vP_perm hP (bP ((((List.Perm.refl _)).cons _).trans (List.Perm.swap _ _ _))))
  have hDx : va_D A ((List.flatten ([oJ4 (p0a 6) ta tk tn tw] : List va_W)) ++ (List.flatten ([mdO p0a p0w, Wt] : List va_W))) := vD_fa (vD_perm hD (bP ((((List.Perm.refl _)).cons _).trans (List.Perm.swap _ _ _))))
  have hKx : va_K (dC, dI) cls ((List.flatten ([tJ4 tk] : List (List (ClassId × FieldType)))) ++ (List.flatten ([[], Tt] : List (List (ClassId × FieldType))))) s := vK_fa (vK_perm hK (bP ((((List.Perm.refl _)).cons _).trans (List.Perm.swap _ _ _))))
  have hPc := vP_l hPx
  have hDc := vD_l hDx
  have hKc := vK_l hKx
  have hFc := vfree hDx hS hA
  obtain ⟨a1, a2⟩ := pcl_a t0 b x.length
  obtain ⟨a3, a4⟩ := pcl_m (t := t0) hN
  rw [htl, hn] at c1 c2
  refine va_callr (va_runV (As := [.ref a]) (rest := rest) S (kJ4_append_15ec4 l dC dI (p0a := st0 (p0a 6) ta) (p0k := tk) (p0n := tn) (p0w := tw) (p1s := a) (p1v := v) (p1m := n) (p1f := f) (sz := _) (o := (w', n')) (hrun := hrun)) (cwV 1 hts (gi_V qw1612 qw1608 qw1609 qw1610 (gi_z qw1611)) rfl rfl rfl (by decide +kernel) ⟨hR.1, Nat.le_trans (m := 140) (Nat.le_of_ble_eq_true rfl) hR.2.1⟩) ⟨PRE.blind, va_recv hKc hPc (ci := 12) (q0 := 0) rfl rfl, PRE.of (ENV.add (ENV.add hE sq9_m hq) pv9_m (zp_pv hE)) hS hFc hPc hKc hDc⟩ rfl rfl hls rfl (lv_room hrm) hdg ⟨by rw [c1]; omega, by rw [c2]; omega⟩) hS (fun q _ h => hFc q h) hFc (fun u r t H locs ht hvm hw hB hz1 hk1 hS => ?_)
  obtain ⟨hra, x1, x2, b1, b2, b3⟩ := hB
  rw [ht] at b1
  subst hra
  obtain ⟨hP, hD, hK⟩ := JOINC (wc := (List.flatten ([oJ4 (p0a 6) ta tk tn tw] : List va_W))) (wr := (List.flatten ([mdO p0a p0w, Wt] : List va_W))) (w1 := (List.flatten ([oJ4 (p0a 6) (st1 ta 1 x1) (st1 tk 1 x2) n' w'] : List va_W))) (t1 := (List.flatten ([tJ4 (st1 tk 1 x2)] : List (List (ClassId × FieldType))))) hPx hDx hKx hk1 hFc b1 (va_K.moved hvm.symm b2) b3
  have hP : va_P (dC, dI) cls (List.flatten ([mdO p0a p0w, oJ4 (p0a 6) (st1 ta 1 x1) (st1 tk 1 x2) n' w', Wt] : List va_W)) H := vP_perm (vP_fb hP) (bP ((((List.Perm.refl _)).cons _).trans (List.Perm.swap _ _ _)))
  have hD : va_D A (List.flatten ([mdO p0a p0w, oJ4 (p0a 6) (st1 ta 1 x1) (st1 tk 1 x2) n' w', Wt] : List va_W)) := vD_perm (vD_fb hD) (bP ((((List.Perm.refl _)).cons _).trans (List.Perm.swap _ _ _)))
  have hK : va_K (dC, dI) cls (List.flatten ([[], tJ4 (st1 tk 1 x2), Tt] : List (List (ClassId × FieldType)))) s := vK_perm (vK_fb hK) (bP ((((List.Perm.refl _)).cons _).trans (List.Perm.swap _ _ _)))
  refine W.widen (k := c0 + pcl t0 (b + x.length)) (n := s0 + psl t0 (b + x.length)) (by rw [c1]; omega) (by rw [c2]; omega) ?_
  exact kk H locs ⟨_, _, _, _, hP, hD, hK, hS, hsb'⟩
theorem tx_apI {v : Nat} (S : CallFix p m c cc nL s args gw RX13) (hE : ENV (ZP aK aV aN aO dOv dTv zs) A s s.heap) (hA : ∀ q : Nat, s.heap.size ≤ q → A q) (hT : TXS dC dI A p0a p0w Wt Tt t s H locs) {i : Int32} (hi : i = pu_I v) (hv : v < 5000) (htl : t.length = t0 + b) (hN : b + (mp_d v).length ≤ N) (h0 : t0 + N ≤ 1150) (hR : 6 ≤ R.frames ∧ 140 ≤ R.locals ∧ c0 + pcl t0 N ≤ R.cells ∧ s0 + psl t0 N ≤ R.slots)
    (hdg : decode cc pc = .ok (.invokevirtual 134, 3)) (hls : ls.size = nL) (hrm : (rest.map fun v => v.category).sum ≤ 8) (kk : ∀ (H : Heap) (locs : List Loc), TXS dC dI A p0a p0w Wt Tt (t ++ mp_d v) s H locs → W p l e R s m args below meth c H locs (c0 + pcl t0 (b + (mp_d v).length)) (s0 + psl t0 (b + (mp_d v).length)) Q (F0 m (pc + 3) ls (.ref (p0a 6) :: rest))) : W p l e R s m args below meth c H locs (c0 + pcl t0 b) (s0 + psl t0 b) Q (F0 m pc ls (.int i :: .ref (p0a 6) :: rest)) := by
  obtain ⟨ta, tk, tn, tw, hP, hD, hK, hS, hsb⟩ := hT
  have hts := S.2.2.2.2
  obtain ⟨w', n', hrun, hsb', c1, c2⟩ := sp_int hsb hv (by omega)
  have hPx : va_P (dC, dI) cls ((List.flatten ([oJ4 (p0a 6) ta tk tn tw] : List va_W)) ++ (List.flatten ([mdO p0a p0w, Wt] : List va_W))) H := vP_fa (vP_perm hP (bP ((((List.Perm.refl _)).cons _).trans (List.Perm.swap _ _ _))))
  have hDx : va_D A ((List.flatten ([oJ4 (p0a 6) ta tk tn tw] : List va_W)) ++ (List.flatten ([mdO p0a p0w, Wt] : List va_W))) := vD_fa (vD_perm hD (bP ((((List.Perm.refl _)).cons _).trans (List.Perm.swap _ _ _))))
  have hKx : va_K (dC, dI) cls ((List.flatten ([tJ4 tk] : List (List (ClassId × FieldType)))) ++ (List.flatten ([[], Tt] : List (List (ClassId × FieldType))))) s := vK_fa (vK_perm hK (bP ((((List.Perm.refl _)).cons _).trans (List.Perm.swap _ _ _))))
  have hPc := vP_l hPx
  have hDc := vD_l hDx
  have hKc := vK_l hKx
  have hFc := vfree hDx hS hA
  obtain ⟨a1, a2⟩ := pcl_a t0 b (mp_d v).length
  obtain ⟨a3, a4⟩ := pcl_m (t := t0) hN
  rw [htl] at c1 c2
  subst hi
  refine va_callr (va_runV (As := [.int (pu_I v)]) (rest := rest) S (kJ4_append_bf812 l dC dI (p0a := st0 (p0a 6) ta) (p0k := tk) (p0n := tn) (p0w := tw) (p1 := pu_I v) (dOv := dOv) (dTv := dTv) (sz := _) (o := (w', n')) (hrun := hrun)) (cwV 1 hts (gi_V qw1616 qw1613 qw1614 qw1610 (gi_z qw1615)) rfl rfl rfl (by decide +kernel) ⟨hR.1, Nat.le_trans (m := 140) (Nat.le_of_ble_eq_true rfl) hR.2.1⟩) ⟨PRE.blind, va_recv hKc hPc (ci := 12) (q0 := 0) rfl rfl, PRE.of (ENV.add (ENV.add hE pv9_m (zp_pv hE)) dg9_m (zp_dg hE)) hS hFc hPc hKc hDc⟩ rfl rfl hls rfl (lv_room hrm) hdg ⟨by rw [c1]; omega, by rw [c2]; omega⟩) hS (fun q _ h => hFc q h) hFc (fun u r t H locs ht hvm hw hB hz1 hk1 hS => ?_)
  obtain ⟨hra, x1, x2, b1, b2, b3⟩ := hB
  rw [ht] at b1
  subst hra
  obtain ⟨hP, hD, hK⟩ := JOINC (wc := (List.flatten ([oJ4 (p0a 6) ta tk tn tw] : List va_W))) (wr := (List.flatten ([mdO p0a p0w, Wt] : List va_W))) (w1 := (List.flatten ([oJ4 (p0a 6) (st1 ta 1 x1) (st1 tk 1 x2) n' w'] : List va_W))) (t1 := (List.flatten ([tJ4 (st1 tk 1 x2)] : List (List (ClassId × FieldType))))) hPx hDx hKx hk1 hFc b1 (va_K.moved hvm.symm b2) b3
  have hP : va_P (dC, dI) cls (List.flatten ([mdO p0a p0w, oJ4 (p0a 6) (st1 ta 1 x1) (st1 tk 1 x2) n' w', Wt] : List va_W)) H := vP_perm (vP_fb hP) (bP ((((List.Perm.refl _)).cons _).trans (List.Perm.swap _ _ _)))
  have hD : va_D A (List.flatten ([mdO p0a p0w, oJ4 (p0a 6) (st1 ta 1 x1) (st1 tk 1 x2) n' w', Wt] : List va_W)) := vD_perm (vD_fb hD) (bP ((((List.Perm.refl _)).cons _).trans (List.Perm.swap _ _ _)))
  have hK : va_K (dC, dI) cls (List.flatten ([[], tJ4 (st1 tk 1 x2), Tt] : List (List (ClassId × FieldType)))) s := vK_perm (vK_fb hK) (bP ((((List.Perm.refl _)).cons _).trans (List.Perm.swap _ _ _)))
  refine W.widen (k := c0 + pcl t0 (b + (mp_d v).length)) (n := s0 + psl t0 (b + (mp_d v).length)) (by rw [c1]; omega) (by rw [c2]; omega) ?_
  exact kk H locs ⟨_, _, _, _, hP, hD, hK, hS, hsb'⟩
/-- a call of a method that prints -/
theorem tx_pr {y : MethodName} {bytes : ByteArray} {maxL F L index : Nat} {ws : List Cond} {arg : Value} {x : List Int32} (S : CallFix p m c cc nL s args gw RX13) (hE : ENV (ZP aK aV aN aO dOv dTv zs) A s s.heap) (hA : ∀ q : Nat, s.heap.size ≤ q → A q) (hT : TXS dC dI A p0a p0w Wt Tt t s H locs) (hM : PR9 l aK aV aN aO dOv dTv y ws F L Wt Tt arg x) (hcw : ∀ C1 S1 : Nat, CallW R s args RX13 RX13 index y bytes maxL (none : Option FieldType) ws ({ frames := F, cells := C1, slots := S1, locals := L } : Room) C1 S1 1) (htl : t.length = t0 + b) (hN : b + x.length ≤ N) (h0 : t0 + N ≤ 1150) (hR : c0 + pcl t0 N ≤ R.cells ∧ s0 + psl t0 N ≤ R.slots)
    (hdg : decode cc pc = .ok (.invokevirtual index, 3)) (hls : ls.size = nL) (hrm : (rest.map fun v => v.category).sum ≤ 8) (kk : ∀ (H : Heap) (locs : List Loc), TXS dC dI A p0a p0w Wt Tt (t ++ x) s H locs → W p l e R s m args below meth c H locs (c0 + pcl t0 (b + x.length)) (s0 + psl t0 (b + x.length)) Q (F0 m (pc + 3) ls rest)) : W p l e R s m args below meth c H locs (c0 + pcl t0 b) (s0 + psl t0 b) Q (F0 m pc ls (arg :: .ref (p0a 0) :: rest)) := by
  obtain ⟨ta, tk, tn, tw, hP, hD, hK, hS, hsb⟩ := hT
  have hPx : va_P (dC, dI) cls ((List.flatten ([mdO p0a p0w, oJ4 (p0a 6) ta tk tn tw, Wt] : List va_W)) ++ (List.flatten ([] : List va_W))) H := vP_fa hP
  have hDx : va_D A ((List.flatten ([mdO p0a p0w, oJ4 (p0a 6) ta tk tn tw, Wt] : List va_W)) ++ (List.flatten ([] : List va_W))) := vD_fa hD
  have hKx : va_K (dC, dI) cls ((List.flatten ([[], tJ4 tk, Tt] : List (List (ClassId × FieldType)))) ++ (List.flatten ([] : List (List (ClassId × FieldType))))) s := vK_fa hK
  have hPc := vP_l hPx
  have hDc := vD_l hDx
  have hKc := vK_l hKx
  have hFc := vfree hDx hS hA
  obtain ⟨a1, a2⟩ := pcl_a t0 b x.length
  obtain ⟨a3, a4⟩ := pcl_m (t := t0) hN
  refine va_callv (va_runV (As := [arg]) (rest := rest) S (hM dC dI p0a p0w t ta tk tn tw _ hsb (by omega)) (hcw _ _) ⟨PRE.blind, va_recv hKc hPc (ci := 14) (q0 := 0) rfl rfl, PRE.of hE hS hFc hPc hKc hDc⟩ rfl rfl hls rfl (lv_room hrm) hdg ⟨by rw [htl]; omega, by rw [htl]; omega⟩) hS (fun q _ h => hFc q h) hFc (fun u t' H locs ht hvm hw hB hz1 hk1 hS => ?_)
  obtain ⟨ta', tk', tn', tw', hsb', b1, b2, b3⟩ := hB
  rw [ht] at b1
  obtain ⟨hP, hD, hK⟩ := JOINC (wc := (List.flatten ([mdO p0a p0w, oJ4 (p0a 6) ta tk tn tw, Wt] : List va_W))) (wr := (List.flatten ([] : List va_W))) (w1 := (List.flatten ([mdO p0a p0w, oJ4 (p0a 6) ta' tk' tn' tw', Wt] : List va_W))) (t1 := (List.flatten ([[], tJ4 tk', Tt] : List (List (ClassId × FieldType))))) hPx hDx hKx hk1 hFc b1 (va_K.moved hvm.symm b2) b3
  refine W.widen (k := c0 + pcl t0 (b + x.length)) (n := s0 + psl t0 (b + x.length)) (by rw [htl]; omega) (by rw [htl]; omega) ?_
  exact kk H locs ⟨_, _, _, _, vP_fb hP, vD_fb hD, vK_fb hK, hS, hsb'⟩
end TXP
theorem li_nm : ∀ v, v < 4 → ∃ q, litL[42 + v]? = some q ∧ litN (42 + v) = (mx_nm v).length ∧ ∀ j, litB (42 + v) j = (mx_nm v).getD j 0 := by
  intro v hv
  rcases (by omega : v = 0 ∨ v = 1 ∨ v = 2 ∨ v = 3) with rfl | rfl | rfl | rfl <;> exact ⟨_, rfl, rfl, fun _ => rfl⟩
theorem li_op : ∀ v, 1 ≤ v → v ≤ 16 → ∃ q, litL[opK v]? = some q ∧ litN (opK v) = (mx_op v).length ∧ ∀ j, litB (opK v) j = (mx_op v).getD j 0 := by
  intro v h1 h2
  rcases (by omega : v = 1 ∨ v = 2 ∨ v = 3 ∨ v = 4 ∨ v = 5 ∨ v = 6 ∨ v = 7 ∨ v = 8 ∨ v = 9 ∨ v = 10 ∨ v = 11 ∨ v = 12 ∨ v = 13 ∨ v = 14 ∨ v = 15 ∨ v = 16) with rfl | rfl | rfl | rfl | rfl | rfl | rfl | rfl | rfl | rfl | rfl | rfl | rfl | rfl | rfl | rfl <;> exact ⟨_, rfl, rfl, fun _ => rfl⟩
theorem i9_n {n : Int32} {k : Nat} (hk : k < 2147483648) (h0 : 0 ≤ n) (h1 : n < pu_I k) : ∃ v, v < k ∧ n = pu_I v := by
  have h2 := pu_of (Int32.not_lt.mpr h0)
  refine ⟨nn n, ?_, h2⟩
  rw [h2] at h1
  have h3 : nn n < 2147483648 := by
    have := Int32.toInt_lt n
    show n.toInt.toNat < _
    omega
  exact (pu_lt h3 hk).mp h1
