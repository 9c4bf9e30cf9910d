set_option maxHeartbeats 4000000 in
set_option maxRecDepth 100000 in
theorem law_27 {zs : Nat × Nat} {p : Program} {e : Env} {s : State} {m : MethodId} {below : List Frame} {meth : Method} {c : Code} {l : Launch} {b : Nat} {xs : Nat → Int32} {dC : Nat → ClassId} {dI : Nat → Nat → Nat} {A : Nat → Prop} (C0 : lw_At p s m meth c b 7 xs) (hl9 : l.stackTraces = false) (hA : ∀ q, s.heap.size ≤ q → A q) (hA2 : ∀ q, A q → s.heap.size ≤ q) (hE : ENV zs A s s.heap) {H : Heap} {locs : List Loc} (q1 : Nat) (q2 : Nat) (q5 : Nat) (q14 : Nat) (q15 : Nat) (q16 : Nat) (q17 : Nat) (q29 : Nat) (q30 : Nat) (q31 : Nat) (q32 : Nat) (q33 : Nat) (q34 : Nat) (q35 : Nat) (q36 : Nat) (q37 : Nat) (q38 : Nat) (q39 : Nat) (q40 : Nat) (q51 : Nat) (q63 : Nat) (q64 : Nat) (q65 : Nat) (q67 : Nat) (q68 : Nat) (c69 : ClassId) (q70 : Nat) (q72 : Nat) (q86 : Nat) (q87 : Nat) (hP : va_P (dC, dI) cls [(q1, .inr (11, [.ref q2, .ref q5, .ref q14, .ref q15, .ref q16, .ref q17, .ref q51, .ref q63, .ref q29, .ref q40, .int (-1)])), (q29, .inr (2, [.int 0, .ref q30, .ref q31, .ref q32, .ref q33, .ref q34, .ref q35, .int 0, .ref q36, .ref q37, .ref q38, .int 0, .ref q39])), (q64, .inr (15, [.ref q65, .int 0, .int (-1), .int 0, .ref q67, .ref q68, .ref q70, .ref q72, .ref q86])), (q68, .inl (c69, 0, .inr (.inr (.inr (.inr (fun _ => none))))))] H) (hD : va_D A [(q1, .inr (11, [.ref q2, .ref q5, .ref q14, .ref q15, .ref q16, .ref q17, .ref q51, .ref q63, .ref q29, .ref q40, .int (-1)])), (q29, .inr (2, [.int 0, .ref q30, .ref q31, .ref q32, .ref q33, .ref q34, .ref q35, .int 0, .ref q36, .ref q37, .ref q38, .int 0, .ref q39])), (q64, .inr (15, [.ref q65, .int 0, .int (-1), .int 0, .ref q67, .ref q68, .ref q70, .ref q72, .ref q86])), (q68, .inl (c69, 0, .inr (.inr (.inr (.inr (fun _ => none))))))]) (hK : va_K (dC, dI) cls [(c69, .object RX14)] s) (hS : va_S A s.heap H locs) {ls : Array Slot} (hl : lv_has ls 9 [(4, .int 0), (3, .ref q87), (2, .ref q64), (1, .ref q1), (0, .ref b)])  : W p l e room_1 s m #[Value.ref b] below meth c H locs 369 122514 (lw_Z below #[Value.ref b] s) (F0 m 1866 ls []) := by
  obtain ⟨hx, hb, hr, hml, hown, hts0, hX, hbl, hlocks, hgv⟩ := id C0
  have hts : ∀ w ∈ gw, w.before #[Value.ref b] s = true := fun w h => hts0 w (gw_tbl h)
  have hbA : ¬ A b := fun h => absurd (hA2 b h) (Nat.not_le.mpr hbl)
  refine lv_aload_n hx hb dL_law_1866 rfl (lv_at hl 3 rfl) ?_
  have hPc := hP.sub (ws' := [(q1, .inr (11, [.ref q2, .ref q5, .ref q14, .ref q15, .ref q16, .ref q17, .ref q51, .ref q63, .ref q29, .ref q40, .int (-1)])), (q29, .inr (2, [.int 0, .ref q30, .ref q31, .ref q32, .ref q33, .ref q34, .ref q35, .int 0, .ref q36, .ref q37, .ref q38, .int 0, .ref q39]))]) [0, 1] rfl
  have hDc := hD.sub (ws' := [(q1, .inr (11, [.ref q2, .ref q5, .ref q14, .ref q15, .ref q16, .ref q17, .ref q51, .ref q63, .ref q29, .ref q40, .int (-1)])), (q29, .inr (2, [.int 0, .ref q30, .ref q31, .ref q32, .ref q33, .ref q34, .ref q35, .int 0, .ref q36, .ref q37, .ref q38, .int 0, .ref q39]))]) [0, 1] (by decide) rfl
  have hKc := hK.sub (tys' := []) [] rfl
  have hFc := va_free (wc := [(q1, .inr (11, [.ref q2, .ref q5, .ref q14, .ref q15, .ref q16, .ref q17, .ref q51, .ref q63, .ref q29, .ref q40, .int (-1)])), (q29, .inr (2, [.int 0, .ref q30, .ref q31, .ref q32, .ref q33, .ref q34, .ref q35, .int 0, .ref q36, .ref q37, .ref q38, .int 0, .ref q39]))]) hD hS hA [0, 1] rfl
  refine va_calli (va_runV (As := []) (rest := []) ⟨hx, hb, hml, hown, hts⟩ (kX11_drop l dC dI (gx := q1) (gq1 := q2) (gq4 := q5) (gq13 := q14) (gq136 := q15) (gq137 := q16) (gq138 := q17) (gq150 := q29) (gq151 := q30) (gq152 := q31) (gq153 := q32) (gq154 := q33) (gq155 := q34) (gq156 := q35) (gq157 := q36) (gq158 := q37) (gq159 := q38) (gq160 := q39) (gq161 := q40) (gq172 := q51) (gq184 := q63) (sz := _)) (cwV 0 hts (gi_V qw780 qw229 qw230 qw222 (gi_z qw227)) rfl rfl rfl (by decide +kernel) ⟨Nat.le_of_ble_eq_true rfl, Nat.le_of_ble_eq_true rfl⟩) ⟨PRE.blind, va_recv hKc hPc (ci := 11) (q0 := 0) rfl rfl, PRE.of hE hS hFc hPc hKc hDc⟩ rfl rfl hl.1 rfl (lv_room (Nat.le_of_ble_eq_true rfl)) dL_law_1867 ⟨Nat.le_of_ble_eq_true rfl, Nat.le_of_ble_eq_true rfl⟩) hS (fun q _ h => hFc q h) hFc (fun r90 u t H locs ht hvm hw hB hz1 hk1 hS => ?_)
  obtain ⟨hP, hD, hK⟩ := JOIN (wr := [(q64, .inr (15, [.ref q65, .int 0, .int (-1), .int 0, .ref q67, .ref q68, .ref q70, .ref q72, .ref q86])), (q68, .inl (c69, 0, .inr (.inr (.inr (.inr (fun _ => none))))))]) hP hD hK [0, 1] [2, 3] [0] rfl rfl (by decide) (by decide) rfl hk1 hFc ht hvm hB
  have hP : va_P (dC, dI) cls [(q64, .inr (15, [.ref q65, .int 0, .int (-1), .int 0, .ref q67, .ref q68, .ref q70, .ref q72, .ref q86])), (q68, .inl (c69, 0, .inr (.inr (.inr (.inr (fun _ => none)))))), (q1, .inr (11, [.ref q2, .ref q5, .ref q14, .ref q15, .ref q16, .ref q17, .ref q51, .ref q63, .ref q29, .ref q40, .int (-1)])), (q29, .inr (2, [.int 0, .ref q30, .ref q31, .ref q32, .ref q33, .ref q34, .ref q35, .int 0, .ref q36, .ref q37, .ref q38, .int 0, .ref q39]))] H := hP
  have hD : va_D A [(q64, .inr (15, [.ref q65, .int 0, .int (-1), .int 0, .ref q67, .ref q68, .ref q70, .ref q72, .ref q86])), (q68, .inl (c69, 0, .inr (.inr (.inr (.inr (fun _ => none)))))), (q1, .inr (11, [.ref q2, .ref q5, .ref q14, .ref q15, .ref q16, .ref q17, .ref q51, .ref q63, .ref q29, .ref q40, .int (-1)])), (q29, .inr (2, [.int 0, .ref q30, .ref q31, .ref q32, .ref q33, .ref q34, .ref q35, .int 0, .ref q36, .ref q37, .ref q38, .int 0, .ref q39]))] := hD
  have hK : va_K (dC, dI) cls [(c69, .object RX14)] s := hK
  refine W.widen (k := 369) (n := 122514) (Nat.le_of_ble_eq_true rfl) (Nat.le_of_ble_eq_true rfl) ?_
  obtain rfl : r90 = 0 := hw
  refine lv_aload_n hx hb dL_law_1870 rfl (lv_at hl 2 rfl) ?_
  have hPc := hP.sub (ws' := [(q64, .inr (15, [.ref q65, .int 0, .int (-1), .int 0, .ref q67, .ref q68, .ref q70, .ref q72, .ref q86])), (q68, .inl (c69, 0, .inr (.inr (.inr (.inr (fun _ => none))))))]) [0, 1] rfl
  have hDc := hD.sub (ws' := [(q64, .inr (15, [.ref q65, .int 0, .int (-1), .int 0, .ref q67, .ref q68, .ref q70, .ref q72, .ref q86])), (q68, .inl (c69, 0, .inr (.inr (.inr (.inr (fun _ => none))))))]) [0, 1] (by decide) rfl
  have hKc := hK.sub (tys' := [(c69, .object RX14)]) [0] rfl
  have hFc := va_free (wc := [(q64, .inr (15, [.ref q65, .int 0, .int (-1), .int 0, .ref q67, .ref q68, .ref q70, .ref q72, .ref q86])), (q68, .inl (c69, 0, .inr (.inr (.inr (.inr (fun _ => none))))))]) hD hS hA [0, 1] rfl
  refine va_calli (va_runV (As := []) (rest := [.int 0]) ⟨hx, hb, hml, hown, hts⟩ (kX24_drop l dC dI (mx := q64) (mq1 := q65) (mq3 := q67) (mq4 := q68) (mc5 := c69) (mq6 := q70) (mq8 := q72) (mq22 := q86) (sz := _)) (cwV 0 hts (gi_V qw782 qw783 qw784 qw406 (gi_z qw781)) rfl rfl rfl (by decide +kernel) ⟨Nat.le_of_ble_eq_true rfl, Nat.le_of_ble_eq_true rfl⟩) ⟨PRE.blind, va_recv hKc hPc (ci := 15) (q0 := 0) rfl rfl, PRE.of hE hS hFc hPc hKc hDc⟩ rfl rfl hl.1 rfl (lv_room (Nat.le_of_ble_eq_true rfl)) dL_law_1871 ⟨Nat.le_of_ble_eq_true rfl, Nat.le_of_ble_eq_true rfl⟩) hS (fun q _ h => hFc q h) hFc (fun r91 u t H locs ht hvm hw hB hz1 hk1 hS => ?_)
  obtain ⟨hP, hD, hK⟩ := JOIN (wr := [(q1, .inr (11, [.ref q2, .ref q5, .ref q14, .ref q15, .ref q16, .ref q17, .ref q51, .ref q63, .ref q29, .ref q40, .int (-1)])), (q29, .inr (2, [.int 0, .ref q30, .ref q31, .ref q32, .ref q33, .ref q34, .ref q35, .int 0, .ref q36, .ref q37, .ref q38, .int 0, .ref q39]))]) hP hD hK [0, 1] [2, 3] [] rfl rfl (by decide) (by decide) rfl hk1 hFc ht hvm hB
  have hP : va_P (dC, dI) cls [(q1, .inr (11, [.ref q2, .ref q5, .ref q14, .ref q15, .ref q16, .ref q17, .ref q51, .ref q63, .ref q29, .ref q40, .int (-1)])), (q29, .inr (2, [.int 0, .ref q30, .ref q31, .ref q32, .ref q33, .ref q34, .ref q35, .int 0, .ref q36, .ref q37, .ref q38, .int 0, .ref q39])), (q64, .inr (15, [.ref q65, .int 0, .int (-1), .int 0, .ref q67, .ref q68, .ref q70, .ref q72, .ref q86]))] H := hP
  have hD : va_D A [(q1, .inr (11, [.ref q2, .ref q5, .ref q14, .ref q15, .ref q16, .ref q17, .ref q51, .ref q63, .ref q29, .ref q40, .int (-1)])), (q29, .inr (2, [.int 0, .ref q30, .ref q31, .ref q32, .ref q33, .ref q34, .ref q35, .int 0, .ref q36, .ref q37, .ref q38, .int 0, .ref q39])), (q64, .inr (15, [.ref q65, .int 0, .int (-1), .int 0, .ref q67, .ref q68, .ref q70, .ref q72, .ref q86]))] := hD
  have hK : va_K (dC, dI) cls [] s := hK
  refine W.widen (k := 369) (n := 122514) (Nat.le_of_ble_eq_true rfl) (Nat.le_of_ble_eq_true rfl) ?_
  obtain rfl : r91 = 0 := hw
  refine lv_icmp_eq (tgt := 2818) hx hb dL_law_1874 (by decide) (fun _ => ?_) (fun c => absurd (by decide) c)
  refine lv_iinc (v := 7) (lv' := [(4, .int 7), (3, .ref q87), (2, .ref q64), (1, .ref q1), (0, .ref b)]) hx hb dL_law_2818 hl (k := 0) rfl (by decide) (by decide) rfl (fun ls hl => ?_)
  refine lv_goto (tgt := 23) hx hb dL_law_2821 (by decide) ?_
  refine lv_iload hx hb dL_law_23 (lv_at hl 0 rfl) ?_
  refine lv_aload_n hx hb dL_law_25 rfl (lv_at hl 4 rfl) ?_
  refine va_slen hx hb hX hbl hbA hS dL_law_26 ?_
  refine lv_topC (y := 7) rfl ?_
  refine lv_bipush (v := 7) hx hb dL_law_27 (by decide) ?_
  refine lv_isub hx hb dL_law_29 ?_
  refine lv_topC (y := 0) (by decide) ?_
  refine lv_icmp_gt (tgt := 2824) hx hb dL_law_30 (by decide) (fun _ => ?_) (fun c => absurd (by decide) c)
  refine lv_iconst (v := 1) hx hb dL_law_2824 (by decide) ?_
  refine va_forget (fun q hq => hA2 _ (hS.2.2 q hq)) ?_
  refine W.widen (k := 600002) (n := 7302232) (Nat.le_of_ble_eq_true rfl) (Nat.le_of_ble_eq_true rfl) ?_
  exact lw_ret (d0 := s.drawn) (Drawn.sameBut.refl s.drawn lw_cs) hx hb hr hlocks dL_law_2825
set_option maxHeartbeats 4000000 in
set_option maxRecDepth 100000 in
theorem law_28 {zs : Nat × Nat} {p : Program} {e : Env} {s : State} {m : MethodId} {below : List Frame} {meth : Method} {c : Code} {l : Launch} {b : Nat} {xs : Nat → Int32} {dC : Nat → ClassId} {dI : Nat → Nat → Nat} {A : Nat → Prop} (C0 : lw_At p s m meth c b 7 xs) (hl9 : l.stackTraces = false) (hA : ∀ q, s.heap.size ≤ q → A q) (hA2 : ∀ q, A q → s.heap.size ≤ q) (hE : ENV zs A s s.heap) {H : Heap} {locs : List Loc} (q1 : Nat) (q2 : Nat) (q5 : Nat) (q14 : Nat) (q15 : Nat) (q16 : Nat) (q17 : Nat) (q29 : Nat) (q30 : Nat) (q31 : Nat) (q32 : Nat) (q33 : Nat) (q34 : Nat) (q35 : Nat) (q36 : Nat) (q37 : Nat) (q38 : Nat) (q39 : Nat) (q40 : Nat) (q51 : Nat) (q63 : Nat) (q64 : Nat) (q65 : Nat) (q67 : Nat) (q68 : Nat) (c69 : ClassId) (q70 : Nat) (q72 : Nat) (q86 : Nat) (q87 : Nat) (hP : va_P (dC, dI) cls [(q1, .inr (11, [.ref q2, .ref q5, .ref q14, .ref q15, .ref q16, .ref q17, .ref q51, .ref q63, .ref q29, .ref q40, .int (-1)])), (q29, .inr (2, [.int 0, .ref q30, .ref q31, .ref q32, .ref q33, .ref q34, .ref q35, .int 0, .ref q36, .ref q37, .ref q38, .int 0, .ref q39])), (q64, .inr (15, [.ref q65, .int 0, .int (-1), .int 0, .ref q67, .ref q68, .ref q70, .ref q72, .ref q86])), (q68, .inl (c69, 0, .inr (.inr (.inr (.inr (fun _ => none))))))] H) (hD : va_D A [(q1, .inr (11, [.ref q2, .ref q5, .ref q14, .ref q15, .ref q16, .ref q17, .ref q51, .ref q63, .ref q29, .ref q40, .int (-1)])), (q29, .inr (2, [.int 0, .ref q30, .ref q31, .ref q32, .ref q33, .ref q34, .ref q35, .int 0, .ref q36, .ref q37, .ref q38, .int 0, .ref q39])), (q64, .inr (15, [.ref q65, .int 0, .int (-1), .int 0, .ref q67, .ref q68, .ref q70, .ref q72, .ref q86])), (q68, .inl (c69, 0, .inr (.inr (.inr (.inr (fun _ => none))))))]) (hK : va_K (dC, dI) cls [(c69, .object RX14)] s) (hS : va_S A s.heap H locs) {ls : Array Slot} (hl : lv_has ls 9 [(4, .int 0), (3, .ref q87), (2, .ref q64), (1, .ref q1), (0, .ref b)])  : W p l e room_1 s m #[Value.ref b] below meth c H locs 369 122514 (lw_Z below #[Value.ref b] s) (F0 m 1879 ls []) := by
  obtain ⟨hx, hb, hr, hml, hown, hts0, hX, hbl, hlocks, hgv⟩ := id C0
  have hts : ∀ w ∈ gw, w.before #[Value.ref b] s = true := fun w h => hts0 w (gw_tbl h)
  have hbA : ¬ A b := fun h => absurd (hA2 b h) (Nat.not_le.mpr hbl)
  refine lv_aload_n hx hb dL_law_1879 rfl (lv_at hl 3 rfl) ?_
  have hPc := hP.sub (ws' := [(q1, .inr (11, [.ref q2, .ref q5, .ref q14, .ref q15, .ref q16, .ref q17, .ref q51, .ref q63, .ref q29, .ref q40, .int (-1)])), (q29, .inr (2, [.int 0, .ref q30, .ref q31, .ref q32, .ref q33, .ref q34, .ref q35, .int 0, .ref q36, .ref q37, .ref q38, .int 0, .ref q39]))]) [0, 1] rfl
  have hDc := hD.sub (ws' := [(q1, .inr (11, [.ref q2, .ref q5, .ref q14, .ref q15, .ref q16, .ref q17, .ref q51, .ref q63, .ref q29, .ref q40, .int (-1)])), (q29, .inr (2, [.int 0, .ref q30, .ref q31, .ref q32, .ref q33, .ref q34, .ref q35, .int 0, .ref q36, .ref q37, .ref q38, .int 0, .ref q39]))]) [0, 1] (by decide) rfl
  have hKc := hK.sub (tys' := []) [] rfl
  have hFc := va_free (wc := [(q1, .inr (11, [.ref q2, .ref q5, .ref q14, .ref q15, .ref q16, .ref q17, .ref q51, .ref q63, .ref q29, .ref q40, .int (-1)])), (q29, .inr (2, [.int 0, .ref q30, .ref q31, .ref q32, .ref q33, .ref q34, .ref q35, .int 0, .ref q36, .ref q37, .ref q38, .int 0, .ref q39]))]) hD hS hA [0, 1] rfl
  refine va_calli (va_runV (As := []) (rest := []) ⟨hx, hb, hml, hown, hts⟩ (kX11_lift l dC dI (gx := q1) (gq1 := q2) (gq4 := q5) (gq13 := q14) (gq136 := q15) (gq137 := q16) (gq138 := q17) (gq150 := q29) (gq151 := q30) (gq152 := q31) (gq153 := q32) (gq154 := q33) (gq155 := q34) (gq156 := q35) (gq157 := q36) (gq158 := q37) (gq159 := q38) (gq160 := q39) (gq161 := q40) (gq172 := q51) (gq184 := q63) (sz := _)) (cwV 0 hts (gi_V qw785 qw233 qw234 qw222 (gi_z qw231)) rfl rfl rfl (by decide +kernel) ⟨Nat.le_of_ble_eq_true rfl, Nat.le_of_ble_eq_true rfl⟩) ⟨PRE.blind, va_recv hKc hPc (ci := 11) (q0 := 0) rfl rfl, PRE.of hE hS hFc hPc hKc hDc⟩ rfl rfl hl.1 rfl (lv_room (Nat.le_of_ble_eq_true rfl)) dL_law_1880 ⟨Nat.le_of_ble_eq_true rfl, Nat.le_of_ble_eq_true rfl⟩) hS (fun q _ h => hFc q h) hFc (fun r90 u t H locs ht hvm hw hB hz1 hk1 hS => ?_)
  obtain ⟨hP, hD, hK⟩ := JOIN (wr := [(q64, .inr (15, [.ref q65, .int 0, .int (-1), .int 0, .ref q67, .ref q68, .ref q70, .ref q72, .ref q86])), (q68, .inl (c69, 0, .inr (.inr (.inr (.inr (fun _ => none))))))]) hP hD hK [0, 1] [2, 3] [0] rfl rfl (by decide) (by decide) rfl hk1 hFc ht hvm hB
  have hP : va_P (dC, dI) cls [(q64, .inr (15, [.ref q65, .int 0, .int (-1), .int 0, .ref q67, .ref q68, .ref q70, .ref q72, .ref q86])), (q68, .inl (c69, 0, .inr (.inr (.inr (.inr (fun _ => none)))))), (q1, .inr (11, [.ref q2, .ref q5, .ref q14, .ref q15, .ref q16, .ref q17, .ref q51, .ref q63, .ref q29, .ref q40, .int (-1)])), (q29, .inr (2, [.int 0, .ref q30, .ref q31, .ref q32, .ref q33, .ref q34, .ref q35, .int 0, .ref q36, .ref q37, .ref q38, .int 0, .ref q39]))] H := hP
  have hD : va_D A [(q64, .inr (15, [.ref q65, .int 0, .int (-1), .int 0, .ref q67, .ref q68, .ref q70, .ref q72, .ref q86])), (q68, .inl (c69, 0, .inr (.inr (.inr (.inr (fun _ => none)))))), (q1, .inr (11, [.ref q2, .ref q5, .ref q14, .ref q15, .ref q16, .ref q17, .ref q51, .ref q63, .ref q29, .ref q40, .int (-1)])), (q29, .inr (2, [.int 0, .ref q30, .ref q31, .ref q32, .ref q33, .ref q34, .ref q35, .int 0, .ref q36, .ref q37, .ref q38, .int 0, .ref q39]))] := hD
  have hK : va_K (dC, dI) cls [(c69, .object RX14)] s := hK
  refine W.widen (k := 369) (n := 122514) (Nat.le_of_ble_eq_true rfl) (Nat.le_of_ble_eq_true rfl) ?_
  obtain rfl : r90 = 0 := hw
  refine lv_aload_n hx hb dL_law_1883 rfl (lv_at hl 2 rfl) ?_
  have hPc := hP.sub (ws' := [(q64, .inr (15, [.ref q65, .int 0, .int (-1), .int 0, .ref q67, .ref q68, .ref q70, .ref q72, .ref q86])), (q68, .inl (c69, 0, .inr (.inr (.inr (.inr (fun _ => none))))))]) [0, 1] rfl
  have hDc := hD.sub (ws' := [(q64, .inr (15, [.ref q65, .int 0, .int (-1), .int 0, .ref q67, .ref q68, .ref q70, .ref q72, .ref q86])), (q68, .inl (c69, 0, .inr (.inr (.inr (.inr (fun _ => none))))))]) [0, 1] (by decide) rfl
  have hKc := hK.sub (tys' := [(c69, .object RX14)]) [0] rfl
  have hFc := va_free (wc := [(q64, .inr (15, [.ref q65, .int 0, .int (-1), .int 0, .ref q67, .ref q68, .ref q70, .ref q72, .ref q86])), (q68, .inl (c69, 0, .inr (.inr (.inr (.inr (fun _ => none))))))]) hD hS hA [0, 1] rfl
  refine va_calli (va_runV (As := []) (rest := [.int 0]) ⟨hx, hb, hml, hown, hts⟩ (kX24_lift l dC dI (mx := q64) (mq1 := q65) (mq3 := q67) (mq4 := q68) (mc5 := c69) (mq6 := q70) (mq8 := q72) (mq22 := q86) (sz := _)) (cwV 0 hts (gi_V qw787 qw788 qw789 qw406 (gi_z qw786)) rfl rfl rfl (by decide +kernel) ⟨Nat.le_of_ble_eq_true rfl, Nat.le_of_ble_eq_true rfl⟩) ⟨PRE.blind, va_recv hKc hPc (ci := 15) (q0 := 0) rfl rfl, PRE.of hE hS hFc hPc hKc hDc⟩ rfl rfl hl.1 rfl (lv_room (Nat.le_of_ble_eq_true rfl)) dL_law_1884 ⟨Nat.le_of_ble_eq_true rfl, Nat.le_of_ble_eq_true rfl⟩) hS (fun q _ h => hFc q h) hFc (fun r91 u t H locs ht hvm hw hB hz1 hk1 hS => ?_)
  obtain ⟨hP, hD, hK⟩ := JOIN (wr := [(q1, .inr (11, [.ref q2, .ref q5, .ref q14, .ref q15, .ref q16, .ref q17, .ref q51, .ref q63, .ref q29, .ref q40, .int (-1)])), (q29, .inr (2, [.int 0, .ref q30, .ref q31, .ref q32, .ref q33, .ref q34, .ref q35, .int 0, .ref q36, .ref q37, .ref q38, .int 0, .ref q39]))]) hP hD hK [0, 1] [2, 3] [] rfl rfl (by decide) (by decide) rfl hk1 hFc ht hvm hB
  have hP : va_P (dC, dI) cls [(q1, .inr (11, [.ref q2, .ref q5, .ref q14, .ref q15, .ref q16, .ref q17, .ref q51, .ref q63, .ref q29, .ref q40, .int (-1)])), (q29, .inr (2, [.int 0, .ref q30, .ref q31, .ref q32, .ref q33, .ref q34, .ref q35, .int 0, .ref q36, .ref q37, .ref q38, .int 0, .ref q39])), (q64, .inr (15, [.ref q65, .int 0, .int (-1), .int 0, .ref q67, .ref q68, .ref q70, .ref q72, .ref q86]))] H := hP
  have hD : va_D A [(q1, .inr (11, [.ref q2, .ref q5, .ref q14, .ref q15, .ref q16, .ref q17, .ref q51, .ref q63, .ref q29, .ref q40, .int (-1)])), (q29, .inr (2, [.int 0, .ref q30, .ref q31, .ref q32, .ref q33, .ref q34, .ref q35, .int 0, .ref q36, .ref q37, .ref q38, .int 0, .ref q39])), (q64, .inr (15, [.ref q65, .int 0, .int (-1), .int 0, .ref q67, .ref q68, .ref q70, .ref q72, .ref q86]))] := hD
  have hK : va_K (dC, dI) cls [] s := hK
  refine W.widen (k := 369) (n := 122514) (Nat.le_of_ble_eq_true rfl) (Nat.le_of_ble_eq_true rfl) ?_
  obtain rfl : r91 = 0 := hw
  refine lv_icmp_eq (tgt := 2818) hx hb dL_law_1887 (by decide) (fun _ => ?_) (fun c => absurd (by decide) c)
  refine lv_iinc (v := 7) (lv' := [(4, .int 7), (3, .ref q87), (2, .ref q64), (1, .ref q1), (0, .ref b)]) hx hb dL_law_2818 hl (k := 0) rfl (by decide) (by decide) rfl (fun ls hl => ?_)
  refine lv_goto (tgt := 23) hx hb dL_law_2821 (by decide) ?_
  refine lv_iload hx hb dL_law_23 (lv_at hl 0 rfl) ?_
  refine lv_aload_n hx hb dL_law_25 rfl (lv_at hl 4 rfl) ?_
  refine va_slen hx hb hX hbl hbA hS dL_law_26 ?_
  refine lv_topC (y := 7) rfl ?_
  refine lv_bipush (v := 7) hx hb dL_law_27 (by decide) ?_
  refine lv_isub hx hb dL_law_29 ?_
  refine lv_topC (y := 0) (by decide) ?_
  refine lv_icmp_gt (tgt := 2824) hx hb dL_law_30 (by decide) (fun _ => ?_) (fun c => absurd (by decide) c)
  refine lv_iconst (v := 1) hx hb dL_law_2824 (by decide) ?_
  refine va_forget (fun q hq => hA2 _ (hS.2.2 q hq)) ?_
  refine W.widen (k := 600002) (n := 7302232) (Nat.le_of_ble_eq_true rfl) (Nat.le_of_ble_eq_true rfl) ?_
  exact lw_ret (d0 := s.drawn) (Drawn.sameBut.refl s.drawn lw_cs) hx hb hr hlocks dL_law_2825
set_option maxHeartbeats 4000000 in
set_option maxRecDepth 100000 in
theorem law_29 {zs : Nat × Nat} {p : Program} {e : Env} {s : State} {m : MethodId} {below : List Frame} {meth : Method} {c : Code} {l : Launch} {b : Nat} {xs : Nat → Int32} {dC : Nat → ClassId} {dI : Nat → Nat → Nat} {A : Nat → Prop} (C0 : lw_At p s m meth c b 7 xs) (hl9 : l.stackTraces = false) (hA : ∀ q, s.heap.size ≤ q → A q) (hA2 : ∀ q, A q → s.heap.size ≤ q) (hE : ENV zs A s s.heap) {H : Heap} {locs : List Loc} (q1 : Nat) (q2 : Nat) (q5 : Nat) (q14 : Nat) (q15 : Nat) (q16 : Nat) (q17 : Nat) (q29 : Nat) (q30 : Nat) (q31 : Nat) (q32 : Nat) (q33 : Nat) (q34 : Nat) (q35 : Nat) (q36 : Nat) (q37 : Nat) (q38 : Nat) (q39 : Nat) (q40 : Nat) (q51 : Nat) (q63 : Nat) (q64 : Nat) (q65 : Nat) (q67 : Nat) (q68 : Nat) (c69 : ClassId) (q70 : Nat) (q72 : Nat) (q86 : Nat) (q87 : Nat) (hP : va_P (dC, dI) cls [(q1, .inr (11, [.ref q2, .ref q5, .ref q14, .ref q15, .ref q16, .ref q17, .ref q51, .ref q63, .ref q29, .ref q40, .int (-1)])), (q29, .inr (2, [.int 0, .ref q30, .ref q31, .ref q32, .ref q33, .ref q34, .ref q35, .int 0, .ref q36, .ref q37, .ref q38, .int 0, .ref q39])), (q64, .inr (15, [.ref q65, .int 0, .int (-1), .int 0, .ref q67, .ref q68, .ref q70, .ref q72, .ref q86])), (q68, .inl (c69, 0, .inr (.inr (.inr (.inr (fun _ => none))))))] H) (hD : va_D A [(q1, .inr (11, [.ref q2, .ref q5, .ref q14, .ref q15, .ref q16, .ref q17, .ref q51, .ref q63, .ref q29, .ref q40, .int (-1)])), (q29, .inr (2, [.int 0, .ref q30, .ref q31, .ref q32, .ref q33, .ref q34, .ref q35, .int 0, .ref q36, .ref q37, .ref q38, .int 0, .ref q39])), (q64, .inr (15, [.ref q65, .int 0, .int (-1), .int 0, .ref q67, .ref q68, .ref q70, .ref q72, .ref q86])), (q68, .inl (c69, 0, .inr (.inr (.inr (.inr (fun _ => none))))))]) (hK : va_K (dC, dI) cls [(c69, .object RX14)] s) (hS : va_S A s.heap H locs) {ls : Array Slot} (hl : lv_has ls 9 [(4, .int 0), (3, .ref q87), (2, .ref q64), (1, .ref q1), (0, .ref b)])  : W p l e room_1 s m #[Value.ref b] below meth c H locs 369 122514 (lw_Z below #[Value.ref b] s) (F0 m 1892 ls []) := by
  obtain ⟨hx, hb, hr, hml, hown, hts0, hX, hbl, hlocks, hgv⟩ := id C0
  have hts : ∀ w ∈ gw, w.before #[Value.ref b] s = true := fun w h => hts0 w (gw_tbl h)
  have hbA : ¬ A b := fun h => absurd (hA2 b h) (Nat.not_le.mpr hbl)
  refine lv_aload_n hx hb dL_law_1892 rfl (lv_at hl 3 rfl) ?_
  have hPc := hP.sub (ws' := [(q1, .inr (11, [.ref q2, .ref q5, .ref q14, .ref q15, .ref q16, .ref q17, .ref q51, .ref q63, .ref q29, .ref q40, .int (-1)])), (q29, .inr (2, [.int 0, .ref q30, .ref q31, .ref q32, .ref q33, .ref q34, .ref q35, .int 0, .ref q36, .ref q37, .ref q38, .int 0, .ref q39]))]) [0, 1] rfl
  have hDc := hD.sub (ws' := [(q1, .inr (11, [.ref q2, .ref q5, .ref q14, .ref q15, .ref q16, .ref q17, .ref q51, .ref q63, .ref q29, .ref q40, .int (-1)])), (q29, .inr (2, [.int 0, .ref q30, .ref q31, .ref q32, .ref q33, .ref q34, .ref q35, .int 0, .ref q36, .ref q37, .ref q38, .int 0, .ref q39]))]) [0, 1] (by decide) rfl
  have hKc := hK.sub (tys' := []) [] rfl
  have hFc := va_free (wc := [(q1, .inr (11, [.ref q2, .ref q5, .ref q14, .ref q15, .ref q16, .ref q17, .ref q51, .ref q63, .ref q29, .ref q40, .int (-1)])), (q29, .inr (2, [.int 0, .ref q30, .ref q31, .ref q32, .ref q33, .ref q34, .ref q35, .int 0, .ref q36, .ref q37, .ref q38, .int 0, .ref q39]))]) hD hS hA [0, 1] rfl
  refine va_calli (va_runV (As := []) (rest := []) ⟨hx, hb, hml, hown, hts⟩ (kX11_merge l dC dI (gx := q1) (gq1 := q2) (gq4 := q5) (gq13 := q14) (gq136 := q15) (gq137 := q16) (gq138 := q17) (gq150 := q29) (gq151 := q30) (gq152 := q31) (gq153 := q32) (gq154 := q33) (gq155 := q34) (gq156 := q35) (gq157 := q36) (gq158 := q37) (gq159 := q38) (gq160 := q39) (gq161 := q40) (gq172 := q51) (gq184 := q63) (sz := _)) (cwV 0 hts (gi_V qw790 qw237 qw238 qw222 (gi_z qw235)) rfl rfl rfl (by decide +kernel) ⟨Nat.le_of_ble_eq_true rfl, Nat.le_of_ble_eq_true rfl⟩) ⟨PRE.blind, va_recv hKc hPc (ci := 11) (q0 := 0) rfl rfl, PRE.of hE hS hFc hPc hKc hDc⟩ rfl rfl hl.1 rfl (lv_room (Nat.le_of_ble_eq_true rfl)) dL_law_1893 ⟨Nat.le_of_ble_eq_true rfl, Nat.le_of_ble_eq_true rfl⟩) hS (fun q _ h => hFc q h) hFc (fun r90 u t H locs ht hvm hw hB hz1 hk1 hS => ?_)
  obtain ⟨hP, hD, hK⟩ := JOIN (wr := [(q64, .inr (15, [.ref q65, .int 0, .int (-1), .int 0, .ref q67, .ref q68, .ref q70, .ref q72, .ref q86])), (q68, .inl (c69, 0, .inr (.inr (.inr (.inr (fun _ => none))))))]) hP hD hK [0, 1] [2, 3] [0] rfl rfl (by decide) (by decide) rfl hk1 hFc ht hvm hB
  have hP : va_P (dC, dI) cls [(q64, .inr (15, [.ref q65, .int 0, .int (-1), .int 0, .ref q67, .ref q68, .ref q70, .ref q72, .ref q86])), (q68, .inl (c69, 0, .inr (.inr (.inr (.inr (fun _ => none)))))), (q1, .inr (11, [.ref q2, .ref q5, .ref q14, .ref q15, .ref q16, .ref q17, .ref q51, .ref q63, .ref q29, .ref q40, .int (-1)])), (q29, .inr (2, [.int 0, .ref q30, .ref q31, .ref q32, .ref q33, .ref q34, .ref q35, .int 0, .ref q36, .ref q37, .ref q38, .int 0, .ref q39]))] H := hP
  have hD : va_D A [(q64, .inr (15, [.ref q65, .int 0, .int (-1), .int 0, .ref q67, .ref q68, .ref q70, .ref q72, .ref q86])), (q68, .inl (c69, 0, .inr (.inr (.inr (.inr (fun _ => none)))))), (q1, .inr (11, [.ref q2, .ref q5, .ref q14, .ref q15, .ref q16, .ref q17, .ref q51, .ref q63, .ref q29, .ref q40, .int (-1)])), (q29, .inr (2, [.int 0, .ref q30, .ref q31, .ref q32, .ref q33, .ref q34, .ref q35, .int 0, .ref q36, .ref q37, .ref q38, .int 0, .ref q39]))] := hD
  have hK : va_K (dC, dI) cls [(c69, .object RX14)] s := hK
  refine W.widen (k := 369) (n := 122514) (Nat.le_of_ble_eq_true rfl) (Nat.le_of_ble_eq_true rfl) ?_
  obtain rfl : r90 = 0 := hw
  refine lv_aload_n hx hb dL_law_1896 rfl (lv_at hl 2 rfl) ?_
  have hPc := hP.sub (ws' := [(q64, .inr (15, [.ref q65, .int 0, .int (-1), .int 0, .ref q67, .ref q68, .ref q70, .ref q72, .ref q86])), (q68, .inl (c69, 0, .inr (.inr (.inr (.inr (fun _ => none))))))]) [0, 1] rfl
  have hDc := hD.sub (ws' := [(q64, .inr (15, [.ref q65, .int 0, .int (-1), .int 0, .ref q67, .ref q68, .ref q70, .ref q72, .ref q86])), (q68, .inl (c69, 0, .inr (.inr (.inr (.inr (fun _ => none))))))]) [0, 1] (by decide) rfl
  have hKc := hK.sub (tys' := [(c69, .object RX14)]) [0] rfl
  have hFc := va_free (wc := [(q64, .inr (15, [.ref q65, .int 0, .int (-1), .int 0, .ref q67, .ref q68, .ref q70, .ref q72, .ref q86])), (q68, .inl (c69, 0, .inr (.inr (.inr (.inr (fun _ => none))))))]) hD hS hA [0, 1] rfl
  refine va_calli (va_runV (As := []) (rest := [.int 0]) ⟨hx, hb, hml, hown, hts⟩ (kX24_merge l dC dI (mx := q64) (mq1 := q65) (mq3 := q67) (mq4 := q68) (mc5 := c69) (mq6 := q70) (mq8 := q72) (mq22 := q86) (sz := _)) (cwV 0 hts (gi_V qw792 qw793 qw794 qw406 (gi_z qw791)) rfl rfl rfl (by decide +kernel) ⟨Nat.le_of_ble_eq_true rfl, Nat.le_of_ble_eq_true rfl⟩) ⟨PRE.blind, va_recv hKc hPc (ci := 15) (q0 := 0) rfl rfl, PRE.of hE hS hFc hPc hKc hDc⟩ rfl rfl hl.1 rfl (lv_room (Nat.le_of_ble_eq_true rfl)) dL_law_1897 ⟨Nat.le_of_ble_eq_true rfl, Nat.le_of_ble_eq_true rfl⟩) hS (fun q _ h => hFc q h) hFc (fun r91 u t H locs ht hvm hw hB hz1 hk1 hS => ?_)
  obtain ⟨hP, hD, hK⟩ := JOIN (wr := [(q1, .inr (11, [.ref q2, .ref q5, .ref q14, .ref q15, .ref q16, .ref q17, .ref q51, .ref q63, .ref q29, .ref q40, .int (-1)])), (q29, .inr (2, [.int 0, .ref q30, .ref q31, .ref q32, .ref q33, .ref q34, .ref q35, .int 0, .ref q36, .ref q37, .ref q38, .int 0, .ref q39]))]) hP hD hK [0, 1] [2, 3] [] rfl rfl (by decide) (by decide) rfl hk1 hFc ht hvm hB
  have hP : va_P (dC, dI) cls [(q1, .inr (11, [.ref q2, .ref q5, .ref q14, .ref q15, .ref q16, .ref q17, .ref q51, .ref q63, .ref q29, .ref q40, .int (-1)])), (q29, .inr (2, [.int 0, .ref q30, .ref q31, .ref q32, .ref q33, .ref q34, .ref q35, .int 0, .ref q36, .ref q37, .ref q38, .int 0, .ref q39])), (q64, .inr (15, [.ref q65, .int 0, .int (-1), .int 0, .ref q67, .ref q68, .ref q70, .ref q72, .ref q86]))] H := hP
  have hD : va_D A [(q1, .inr (11, [.ref q2, .ref q5, .ref q14, .ref q15, .ref q16, .ref q17, .ref q51, .ref q63, .ref q29, .ref q40, .int (-1)])), (q29, .inr (2, [.int 0, .ref q30, .ref q31, .ref q32, .ref q33, .ref q34, .ref q35, .int 0, .ref q36, .ref q37, .ref q38, .int 0, .ref q39])), (q64, .inr (15, [.ref q65, .int 0, .int (-1), .int 0, .ref q67, .ref q68, .ref q70, .ref q72, .ref q86]))] := hD
  have hK : va_K (dC, dI) cls [] s := hK
  refine W.widen (k := 369) (n := 122514) (Nat.le_of_ble_eq_true rfl) (Nat.le_of_ble_eq_true rfl) ?_
  obtain rfl : r91 = 0 := hw
  refine lv_icmp_eq (tgt := 2818) hx hb dL_law_1900 (by decide) (fun _ => ?_) (fun c => absurd (by decide) c)
  refine lv_iinc (v := 7) (lv' := [(4, .int 7), (3, .ref q87), (2, .ref q64), (1, .ref q1), (0, .ref b)]) hx hb dL_law_2818 hl (k := 0) rfl (by decide) (by decide) rfl (fun ls hl => ?_)
  refine lv_goto (tgt := 23) hx hb dL_law_2821 (by decide) ?_
  refine lv_iload hx hb dL_law_23 (lv_at hl 0 rfl) ?_
  refine lv_aload_n hx hb dL_law_25 rfl (lv_at hl 4 rfl) ?_
  refine va_slen hx hb hX hbl hbA hS dL_law_26 ?_
  refine lv_topC (y := 7) rfl ?_
  refine lv_bipush (v := 7) hx hb dL_law_27 (by decide) ?_
  refine lv_isub hx hb dL_law_29 ?_
  refine lv_topC (y := 0) (by decide) ?_
  refine lv_icmp_gt (tgt := 2824) hx hb dL_law_30 (by decide) (fun _ => ?_) (fun c => absurd (by decide) c)
  refine lv_iconst (v := 1) hx hb dL_law_2824 (by decide) ?_
  refine va_forget (fun q hq => hA2 _ (hS.2.2 q hq)) ?_
  refine W.widen (k := 600002) (n := 7302232) (Nat.le_of_ble_eq_true rfl) (Nat.le_of_ble_eq_true rfl) ?_
  exact lw_ret (d0 := s.drawn) (Drawn.sameBut.refl s.drawn lw_cs) hx hb hr hlocks dL_law_2825
set_option maxHeartbeats 4000000 in
set_option maxRecDepth 100000 in
theorem law_30 {zs : Nat × Nat} {p : Program} {e : Env} {s : State} {m : MethodId} {below : List Frame} {meth : Method} {c : Code} {l : Launch} {b : Nat} {xs : Nat → Int32} {dC : Nat → ClassId} {dI : Nat → Nat → Nat} {A : Nat → Prop} (C0 : lw_At p s m meth c b 7 xs) (hl9 : l.stackTraces = false) (hA : ∀ q, s.heap.size ≤ q → A q) (hA2 : ∀ q, A q → s.heap.size ≤ q) (hE : ENV zs A s s.heap) {H : Heap} {locs : List Loc} (q1 : Nat) (q2 : Nat) (q5 : Nat) (q14 : Nat) (q15 : Nat) (q16 : Nat) (q17 : Nat) (q29 : Nat) (q30 : Nat) (q31 : Nat) (q32 : Nat) (q33 : Nat) (q34 : Nat) (q35 : Nat) (q36 : Nat) (q37 : Nat) (q38 : Nat) (q39 : Nat) (q40 : Nat) (q51 : Nat) (q63 : Nat) (q64 : Nat) (q65 : Nat) (q67 : Nat) (q68 : Nat) (c69 : ClassId) (q70 : Nat) (q72 : Nat) (q86 : Nat) (q87 : Nat) (hP : va_P (dC, dI) cls [(q1, .inr (11, [.ref q2, .ref q5, .ref q14, .ref q15, .ref q16, .ref q17, .ref q51, .ref q63, .ref q29, .ref q40, .int (-1)])), (q29, .inr (2, [.int 0, .ref q30, .ref q31, .ref q32, .ref q33, .ref q34, .ref q35, .int 0, .ref q36, .ref q37, .ref q38, .int 0, .ref q39])), (q64, .inr (15, [.ref q65, .int 0, .int (-1), .int 0, .ref q67, .ref q68, .ref q70, .ref q72, .ref q86])), (q68, .inl (c69, 0, .inr (.inr (.inr (.inr (fun _ => none))))))] H) (hD : va_D A [(q1, .inr (11, [.ref q2, .ref q5, .ref q14, .ref q15, .ref q16, .ref q17, .ref q51, .ref q63, .ref q29, .ref q40, .int (-1)])), (q29, .inr (2, [.int 0, .ref q30, .ref q31, .ref q32, .ref q33, .ref q34, .ref q35, .int 0, .ref q36, .ref q37, .ref q38, .int 0, .ref q39])), (q64, .inr (15, [.ref q65, .int 0, .int (-1), .int 0, .ref q67, .ref q68, .ref q70, .ref q72, .ref q86])), (q68, .inl (c69, 0, .inr (.inr (.inr (.inr (fun _ => none))))))]) (hK : va_K (dC, dI) cls [(c69, .object RX14)] s) (hS : va_S A s.heap H locs) {ls : Array Slot} (hl : lv_has ls 9 [(4, .int 0), (3, .ref q87), (2, .ref q64), (1, .ref q1), (0, .ref b)])  : W p l e room_1 s m #[Value.ref b] below meth c H locs 369 122514 (lw_Z below #[Value.ref b] s) (F0 m 1905 ls []) := by
  obtain ⟨hx, hb, hr, hml, hown, hts0, hX, hbl, hlocks, hgv⟩ := id C0
  have hts : ∀ w ∈ gw, w.before #[Value.ref b] s = true := fun w h => hts0 w (gw_tbl h)
  have hbA : ¬ A b := fun h => absurd (hA2 b h) (Nat.not_le.mpr hbl)
  refine lv_aload_n hx hb dL_law_1905 rfl (lv_at hl 3 rfl) ?_
  have hPc := hP.sub (ws' := [(q1, .inr (11, [.ref q2, .ref q5, .ref q14, .ref q15, .ref q16, .ref q17, .ref q51, .ref q63, .ref q29, .ref q40, .int (-1)])), (q29, .inr (2, [.int 0, .ref q30, .ref q31, .ref q32, .ref q33, .ref q34, .ref q35, .int 0, .ref q36, .ref q37, .ref q38, .int 0, .ref q39]))]) [0, 1] rfl
  have hDc := hD.sub (ws' := [(q1, .inr (11, [.ref q2, .ref q5, .ref q14, .ref q15, .ref q16, .ref q17, .ref q51, .ref q63, .ref q29, .ref q40, .int (-1)])), (q29, .inr (2, [.int 0, .ref q30, .ref q31, .ref q32, .ref q33, .ref q34, .ref q35, .int 0, .ref q36, .ref q37, .ref q38, .int 0, .ref q39]))]) [0, 1] (by decide) rfl
  have hKc := hK.sub (tys' := []) [] rfl
  have hFc := va_free (wc := [(q1, .inr (11, [.ref q2, .ref q5, .ref q14, .ref q15, .ref q16, .ref q17, .ref q51, .ref q63, .ref q29, .ref q40, .int (-1)])), (q29, .inr (2, [.int 0, .ref q30, .ref q31, .ref q32, .ref q33, .ref q34, .ref q35, .int 0, .ref q36, .ref q37, .ref q38, .int 0, .ref q39]))]) hD hS hA [0, 1] rfl
  refine va_calli (va_runV (As := []) (rest := []) ⟨hx, hb, hml, hown, hts⟩ (kX11_settle l dC dI (gx := q1) (gq1 := q2) (gq4 := q5) (gq13 := q14) (gq136 := q15) (gq137 := q16) (gq138 := q17) (gq150 := q29) (gq151 := q30) (gq152 := q31) (gq153 := q32) (gq154 := q33) (gq155 := q34) (gq156 := q35) (gq157 := q36) (gq158 := q37) (gq159 := q38) (gq160 := q39) (gq161 := q40) (gq172 := q51) (gq184 := q63) (sz := _)) (cwV 0 hts (gi_V qw796 qw797 qw798 qw222 (gi_z qw795)) rfl rfl rfl (by decide +kernel) ⟨Nat.le_of_ble_eq_true rfl, Nat.le_of_ble_eq_true rfl⟩) ⟨PRE.blind, va_recv hKc hPc (ci := 11) (q0 := 0) rfl rfl, PRE.of hE hS hFc hPc hKc hDc⟩ rfl rfl hl.1 rfl (lv_room (Nat.le_of_ble_eq_true rfl)) dL_law_1906 ⟨Nat.le_of_ble_eq_true rfl, Nat.le_of_ble_eq_true rfl⟩) hS (fun q _ h => hFc q h) hFc (fun r90 u t H locs ht hvm hw hB hz1 hk1 hS => ?_)
  obtain ⟨hP, hD, hK⟩ := JOIN (wr := [(q64, .inr (15, [.ref q65, .int 0, .int (-1), .int 0, .ref q67, .ref q68, .ref q70, .ref q72, .ref q86])), (q68, .inl (c69, 0, .inr (.inr (.inr (.inr (fun _ => none))))))]) hP hD hK [0, 1] [2, 3] [0] rfl rfl (by decide) (by decide) rfl hk1 hFc ht hvm hB
  have hP : va_P (dC, dI) cls [(q64, .inr (15, [.ref q65, .int 0, .int (-1), .int 0, .ref q67, .ref q68, .ref q70, .ref q72, .ref q86])), (q68, .inl (c69, 0, .inr (.inr (.inr (.inr (fun _ => none)))))), (q1, .inr (11, [.ref q2, .ref q5, .ref q14, .ref q15, .ref q16, .ref q17, .ref q51, .ref q63, .ref q29, .ref q40, .int (-1)])), (q29, .inr (2, [.int 0, .ref q30, .ref q31, .ref q32, .ref q33, .ref q34, .ref q35, .int 0, .ref q36, .ref q37, .ref q38, .int 0, .ref q39]))] H := hP
  have hD : va_D A [(q64, .inr (15, [.ref q65, .int 0, .int (-1), .int 0, .ref q67, .ref q68, .ref q70, .ref q72, .ref q86])), (q68, .inl (c69, 0, .inr (.inr (.inr (.inr (fun _ => none)))))), (q1, .inr (11, [.ref q2, .ref q5, .ref q14, .ref q15, .ref q16, .ref q17, .ref q51, .ref q63, .ref q29, .ref q40, .int (-1)])), (q29, .inr (2, [.int 0, .ref q30, .ref q31, .ref q32, .ref q33, .ref q34, .ref q35, .int 0, .ref q36, .ref q37, .ref q38, .int 0, .ref q39]))] := hD
  have hK : va_K (dC, dI) cls [(c69, .object RX14)] s := hK
  refine W.widen (k := 369) (n := 122514) (Nat.le_of_ble_eq_true rfl) (Nat.le_of_ble_eq_true rfl) ?_
  obtain rfl : r90 = 1 := hw
  refine lv_aload_n hx hb dL_law_1909 rfl (lv_at hl 2 rfl) ?_
  have hPc := hP.sub (ws' := [(q64, .inr (15, [.ref q65, .int 0, .int (-1), .int 0, .ref q67, .ref q68, .ref q70, .ref q72, .ref q86])), (q68, .inl (c69, 0, .inr (.inr (.inr (.inr (fun _ => none))))))]) [0, 1] rfl
  have hDc := hD.sub (ws' := [(q64, .inr (15, [.ref q65, .int 0, .int (-1), .int 0, .ref q67, .ref q68, .ref q70, .ref q72, .ref q86])), (q68, .inl (c69, 0, .inr (.inr (.inr (.inr (fun _ => none))))))]) [0, 1] (by decide) rfl
  have hKc := hK.sub (tys' := [(c69, .object RX14)]) [0] rfl
  have hFc := va_free (wc := [(q64, .inr (15, [.ref q65, .int 0, .int (-1), .int 0, .ref q67, .ref q68, .ref q70, .ref q72, .ref q86])), (q68, .inl (c69, 0, .inr (.inr (.inr (.inr (fun _ => none))))))]) hD hS hA [0, 1] rfl
  refine va_calli (va_runV (As := []) (rest := [.int 1]) ⟨hx, hb, hml, hown, hts⟩ (kX24_settle l dC dI (mx := q64) (mq1 := q65) (mq3 := q67) (mq4 := q68) (mc5 := c69) (mq6 := q70) (mq8 := q72) (mq22 := q86) (sz := _)) (cwV 0 hts (gi_V qw800 qw801 qw802 qw406 (gi_z qw799)) rfl rfl rfl (by decide +kernel) ⟨Nat.le_of_ble_eq_true rfl, Nat.le_of_ble_eq_true rfl⟩) ⟨PRE.blind, va_recv hKc hPc (ci := 15) (q0 := 0) rfl rfl, PRE.of hE hS hFc hPc hKc hDc⟩ rfl rfl hl.1 rfl (lv_room (Nat.le_of_ble_eq_true rfl)) dL_law_1910 ⟨Nat.le_of_ble_eq_true rfl, Nat.le_of_ble_eq_true rfl⟩) hS (fun q _ h => hFc q h) hFc (fun r91 u t H locs ht hvm hw hB hz1 hk1 hS => ?_)
  obtain ⟨hP, hD, hK⟩ := JOIN (wr := [(q1, .inr (11, [.ref q2, .ref q5, .ref q14, .ref q15, .ref q16, .ref q17, .ref q51, .ref q63, .ref q29, .ref q40, .int (-1)])), (q29, .inr (2, [.int 0, .ref q30, .ref q31, .ref q32, .ref q33, .ref q34, .ref q35, .int 0, .ref q36, .ref q37, .ref q38, .int 0, .ref q39]))]) hP hD hK [0, 1] [2, 3] [] rfl rfl (by decide) (by decide) rfl hk1 hFc ht hvm hB
  have hP : va_P (dC, dI) cls [(q1, .inr (11, [.ref q2, .ref q5, .ref q14, .ref q15, .ref q16, .ref q17, .ref q51, .ref q63, .ref q29, .ref q40, .int (-1)])), (q29, .inr (2, [.int 0, .ref q30, .ref q31, .ref q32, .ref q33, .ref q34, .ref q35, .int 0, .ref q36, .ref q37, .ref q38, .int 0, .ref q39])), (q64, .inr (15, [.ref q65, .int 0, .int (-1), .int 0, .ref q67, .ref q68, .ref q70, .ref q72, .ref q86]))] H := hP
  have hD : va_D A [(q1, .inr (11, [.ref q2, .ref q5, .ref q14, .ref q15, .ref q16, .ref q17, .ref q51, .ref q63, .ref q29, .ref q40, .int (-1)])), (q29, .inr (2, [.int 0, .ref q30, .ref q31, .ref q32, .ref q33, .ref q34, .ref q35, .int 0, .ref q36, .ref q37, .ref q38, .int 0, .ref q39])), (q64, .inr (15, [.ref q65, .int 0, .int (-1), .int 0, .ref q67, .ref q68, .ref q70, .ref q72, .ref q86]))] := hD
  have hK : va_K (dC, dI) cls [] s := hK
  refine W.widen (k := 369) (n := 122514) (Nat.le_of_ble_eq_true rfl) (Nat.le_of_ble_eq_true rfl) ?_
  obtain rfl : r91 = 1 := hw
  refine lv_icmp_eq (tgt := 2818) hx hb dL_law_1913 (by decide) (fun _ => ?_) (fun c => absurd (by decide) c)
  refine lv_iinc (v := 7) (lv' := [(4, .int 7), (3, .ref q87), (2, .ref q64), (1, .ref q1), (0, .ref b)]) hx hb dL_law_2818 hl (k := 0) rfl (by decide) (by decide) rfl (fun ls hl => ?_)
  refine lv_goto (tgt := 23) hx hb dL_law_2821 (by decide) ?_
  refine lv_iload hx hb dL_law_23 (lv_at hl 0 rfl) ?_
  refine lv_aload_n hx hb dL_law_25 rfl (lv_at hl 4 rfl) ?_
  refine va_slen hx hb hX hbl hbA hS dL_law_26 ?_
  refine lv_topC (y := 7) rfl ?_
  refine lv_bipush (v := 7) hx hb dL_law_27 (by decide) ?_
  refine lv_isub hx hb dL_law_29 ?_
  refine lv_topC (y := 0) (by decide) ?_
  refine lv_icmp_gt (tgt := 2824) hx hb dL_law_30 (by decide) (fun _ => ?_) (fun c => absurd (by decide) c)
  refine lv_iconst (v := 1) hx hb dL_law_2824 (by decide) ?_
  refine va_forget (fun q hq => hA2 _ (hS.2.2 q hq)) ?_
  refine W.widen (k := 600002) (n := 7302232) (Nat.le_of_ble_eq_true rfl) (Nat.le_of_ble_eq_true rfl) ?_
  exact lw_ret (d0 := s.drawn) (Drawn.sameBut.refl s.drawn lw_cs) hx hb hr hlocks dL_law_2825
set_option maxHeartbeats 4000000 in
set_option maxRecDepth 100000 in
theorem law_31_a {zs : Nat × Nat} {p : Program} {e : Env} {s : State} {m : MethodId} {below : List Frame} {meth : Method} {c : Code} {l : Launch} {b : Nat} {xs : Nat → Int32} {dC : Nat → ClassId} {dI : Nat → Nat → Nat} {A : Nat → Prop} (C0 : lw_At p s m meth c b 7 xs) (hl9 : l.stackTraces = false) (hA : ∀ q, s.heap.size ≤ q → A q) (hA2 : ∀ q, A q → s.heap.size ≤ q) (hE : ENV zs A s s.heap) {H : Heap} {locs : List Loc} (q1 : Nat) (q2 : Nat) (q5 : Nat) (q14 : Nat) (q15 : Nat) (q16 : Nat) (q17 : Nat) (q29 : Nat) (q40 : Nat) (q51 : Nat) (q63 : Nat) (q64 : Nat) (q65 : Nat) (q67 : Nat) (q68 : Nat) (q70 : Nat) (q72 : Nat) (q86 : Nat) (q87 : Nat) (hP : va_P (dC, dI) cls [(q1, .inr (11, [.ref q2, .ref q5, .ref q14, .ref q15, .ref q16, .ref q17, .ref q51, .ref q63, .ref q29, .ref q40, .int (-1)])), (q64, .inr (15, [.ref q65, .int 0, .int (-1), .int 0, .ref q67, .ref q68, .ref q70, .ref q72, .ref q86]))] H) (hD : va_D A [(q1, .inr (11, [.ref q2, .ref q5, .ref q14, .ref q15, .ref q16, .ref q17, .ref q51, .ref q63, .ref q29, .ref q40, .int (-1)])), (q64, .inr (15, [.ref q65, .int 0, .int (-1), .int 0, .ref q67, .ref q68, .ref q70, .ref q72, .ref q86]))]) (hK : va_K (dC, dI) cls [] s) (hS : va_S A s.heap H locs) {ls : Array Slot} (hl : lv_has ls 9 [(4, .int 0), (3, .ref q87), (2, .ref q64), (1, .ref q1), (0, .ref b)]) (h1 : (xs 1) < 3) : W p l e room_1 s m #[Value.ref b] below meth c H locs 369 122514 (lw_Z below #[Value.ref b] s) (F0 m 1918 ls []) := by
  obtain ⟨hx, hb, hr, hml, hown, hts0, hX, hbl, hlocks, hgv⟩ := id C0
  have hts : ∀ w ∈ gw, w.before #[Value.ref b] s = true := fun w h => hts0 w (gw_tbl h)
  have hbA : ¬ A b := fun h => absurd (hA2 b h) (Nat.not_le.mpr hbl)
  refine lv_aload_n hx hb dL_law_1918 rfl (lv_at hl 3 rfl) ?_
  refine lv_aload_n hx hb dL_law_1919 rfl (lv_at hl 4 rfl) ?_
  refine lv_iload hx hb dL_law_1920 (lv_at hl 0 rfl) ?_
  refine lv_iconst (v := 1) hx hb dL_law_1922 (by decide) ?_
  refine lv_iadd hx hb dL_law_1923 ?_
  refine lv_topC (y := 1) (by decide) ?_
  refine va_sld hx hb hX hbl hbA hS (by unfold vp_in; decide +kernel) dL_law_1924 ?_
  refine lv_topC (y := xs 1) rfl ?_
  refine lv_aload_n hx hb dL_law_1925 rfl (lv_at hl 1 rfl) ?_
  have hPc := hP.sub (ws' := [(q1, .inr (11, [.ref q2, .ref q5, .ref q14, .ref q15, .ref q16, .ref q17, .ref q51, .ref q63, .ref q29, .ref q40, .int (-1)]))]) [0] rfl
  have hDc := hD.sub (ws' := [(q1, .inr (11, [.ref q2, .ref q5, .ref q14, .ref q15, .ref q16, .ref q17, .ref q51, .ref q63, .ref q29, .ref q40, .int (-1)]))]) [0] (by decide) rfl
  have hKc := hK.sub (tys' := []) [] rfl
  have hFc := va_free (wc := [(q1, .inr (11, [.ref q2, .ref q5, .ref q14, .ref q15, .ref q16, .ref q17, .ref q51, .ref q63, .ref q29, .ref q40, .int (-1)]))]) hD hS hA [0] rfl
  refine va_calli (vx_runSW (As := [.ref q1, .int (xs 1), .ref q87]) (rest := []) ⟨hx, hb, hml, hown, hts⟩ (kL_allocate_a l dC dI (gx := q1) (gq1 := q2) (gq4 := q5) (gq13 := q14) (gq136 := q15) (gq137 := q16) (gq138 := q17) (gq150 := q29) (gq161 := q40) (gq172 := q51) (gq184 := q63) (go := q87) (p0 := (xs 1)) (sz := _) (hl9 := hl9) (h1 := h1)) (vx_cwSW 3 hts (gi_S qw804 qw805 qw597 (gi_h qw803)) rfl rfl rfl (by decide +kernel) ⟨Nat.le_of_ble_eq_true rfl, Nat.le_of_ble_eq_true rfl⟩) ⟨PRE.blind, PRE.of hE hS hFc hPc hKc hDc⟩ rfl rfl hl.1 rfl (lv_room (Nat.le_of_ble_eq_true rfl)) dL_law_1926 ⟨Nat.le_of_ble_eq_true rfl, Nat.le_of_ble_eq_true rfl⟩) hS (fun q _ h => hFc q h) hFc (fun r90 u t H locs ht hvm hw hB hz1 hk1 hS => ?_)
  obtain ⟨hP, hD, hK⟩ := JOIN (wr := [(q64, .inr (15, [.ref q65, .int 0, .int (-1), .int 0, .ref q67, .ref q68, .ref q70, .ref q72, .ref q86]))]) hP hD hK [0] [1] [] rfl rfl (by decide) (by decide) rfl hk1 hFc ht hvm hB
  have hP : va_P (dC, dI) cls [(q64, .inr (15, [.ref q65, .int 0, .int (-1), .int 0, .ref q67, .ref q68, .ref q70, .ref q72, .ref q86]))] H := hP
  have hD : va_D A [(q64, .inr (15, [.ref q65, .int 0, .int (-1), .int 0, .ref q67, .ref q68, .ref q70, .ref q72, .ref q86]))] := hD
  have hK : va_K (dC, dI) cls [] s := hK
  refine W.widen (k := 370) (n := 122520) (Nat.le_of_ble_eq_true rfl) (Nat.le_of_ble_eq_true rfl) ?_
  obtain rfl : r90 = 1 := hw
  refine lv_istore (lv' := [(5, .int 1), (4, .int 0), (3, .ref q87), (2, .ref q64), (1, .ref q1), (0, .ref b)]) hx hb dL_law_1929 hl (by decide) rfl (fun ls hl => ?_)
  refine lv_aload_n hx hb dL_law_1931 rfl (lv_at hl 3 rfl) ?_
  refine lv_aload_n hx hb dL_law_1932 rfl (lv_at hl 5 rfl) ?_
  refine lv_iload hx hb dL_law_1933 (lv_at hl 1 rfl) ?_
  refine lv_iconst (v := 1) hx hb dL_law_1935 (by decide) ?_
  refine lv_iadd hx hb dL_law_1936 ?_
  refine lv_topC (y := 1) (by decide) ?_
  refine va_sld hx hb hX hbl hbA hS (by unfold vp_in; decide +kernel) dL_law_1937 ?_
  refine lv_topC (y := xs 1) rfl ?_
  have hPc := hP.sub (ws' := [(q64, .inr (15, [.ref q65, .int 0, .int (-1), .int 0, .ref q67, .ref q68, .ref q70, .ref q72, .ref q86]))]) [0] rfl
  have hDc := hD.sub (ws' := [(q64, .inr (15, [.ref q65, .int 0, .int (-1), .int 0, .ref q67, .ref q68, .ref q70, .ref q72, .ref q86]))]) [0] (by decide) rfl
  have hKc := hK.sub (tys' := []) [] rfl
  have hFc := va_free (wc := [(q64, .inr (15, [.ref q65, .int 0, .int (-1), .int 0, .ref q67, .ref q68, .ref q70, .ref q72, .ref q86]))]) hD hS hA [0] rfl
  refine va_calli (va_runV (As := [.int (xs 1)]) (rest := []) ⟨hx, hb, hml, hown, hts⟩ (kX24_allocate_a l dC dI (mx := q64) (mq1 := q65) (mq3 := q67) (mq4 := q68) (mq6 := q70) (mq8 := q72) (mq22 := q86) (p0 := (xs 1)) (sz := _) (h1 := h1)) (cwV 1 hts (gi_V qw807 qw808 qw809 qw406 (gi_z qw806)) rfl rfl rfl (by decide +kernel) ⟨Nat.le_of_ble_eq_true rfl, Nat.le_of_ble_eq_true rfl⟩) ⟨PRE.blind, va_recv hKc hPc (ci := 15) (q0 := 0) rfl rfl, PRE.of hE hS hFc hPc hKc hDc⟩ rfl rfl hl.1 rfl (lv_room (Nat.le_of_ble_eq_true rfl)) dL_law_1938 ⟨Nat.le_of_ble_eq_true rfl, Nat.le_of_ble_eq_true rfl⟩) hS (fun q _ h => hFc q h) hFc (fun r91 u t H locs ht hvm hw hB hz1 hk1 hS => ?_)
  obtain ⟨hP, hD, hK⟩ := JOIN (wr := []) hP hD hK [0] [] [] rfl rfl (by decide) (by decide) rfl hk1 hFc ht hvm hB
  have hP : va_P (dC, dI) cls [(q64, .inr (15, [.ref q65, .int 0, .int (-1), .int 1, .ref q67, .ref q68, .ref q70, .ref q72, .ref q86]))] H := hP
  have hD : va_D A [(q64, .inr (15, [.ref q65, .int 0, .int (-1), .int 1, .ref q67, .ref q68, .ref q70, .ref q72, .ref q86]))] := hD
  have hK : va_K (dC, dI) cls [] s := hK
  refine W.widen (k := 370) (n := 122520) (Nat.le_of_ble_eq_true rfl) (Nat.le_of_ble_eq_true rfl) ?_
  obtain rfl : r91 = 0 := hw
  refine lv_istore (lv' := [(6, .int 0), (5, .int 1), (4, .int 0), (3, .ref q87), (2, .ref q64), (1, .ref q1), (0, .ref b)]) hx hb dL_law_1941 hl (by decide) rfl (fun ls hl => ?_)
  refine lv_aload_n hx hb dL_law_1943 rfl (lv_at hl 4 rfl) ?_
  have hPc := hP.sub (ws' := [(q64, .inr (15, [.ref q65, .int 0, .int (-1), .int 1, .ref q67, .ref q68, .ref q70, .ref q72, .ref q86]))]) [0] rfl
  have hDc := hD.sub (ws' := [(q64, .inr (15, [.ref q65, .int 0, .int (-1), .int 1, .ref q67, .ref q68, .ref q70, .ref q72, .ref q86]))]) [0] (by decide) rfl
  have hKc := hK.sub (tys' := []) [] rfl
  have hFc := va_free (wc := [(q64, .inr (15, [.ref q65, .int 0, .int (-1), .int 1, .ref q67, .ref q68, .ref q70, .ref q72, .ref q86]))]) hD hS hA [0] rfl
  refine va_calli (va_runV (As := []) (rest := []) ⟨hx, hb, hml, hown, hts⟩ (kX24_thrown_n52 l dC dI (a0 := q64) (a60 := q65) (a62 := q68) (a64 := q70) (a66 := q72) (a82 := q67) (a83 := q86) (sz := _)) (cwV 0 hts (gi_V qw603 qw604 qw605 qw406 (gi_z qw602)) rfl rfl rfl (by decide +kernel) ⟨Nat.le_of_ble_eq_true rfl, Nat.le_of_ble_eq_true rfl⟩) ⟨PRE.blind, va_recv hKc hPc (ci := 15) (q0 := 0) rfl rfl, PRE.of hE hS hFc hPc hKc hDc⟩ rfl rfl hl.1 rfl (lv_room (Nat.le_of_ble_eq_true rfl)) dL_law_1944 ⟨Nat.le_of_ble_eq_true rfl, Nat.le_of_ble_eq_true rfl⟩) hS (fun q _ h => hFc q h) hFc (fun r92 u t H locs ht hvm hw hB hz1 hk1 hS => ?_)
  obtain ⟨hP, hD, hK⟩ := JOIN (wr := []) hP hD hK [0] [] [] rfl rfl (by decide) (by decide) rfl hk1 hFc ht hvm hB
  have hP : va_P (dC, dI) cls [(q64, .inr (15, [.ref q65, .int 0, .int (-1), .int 1, .ref q67, .ref q68, .ref q70, .ref q72, .ref q86]))] H := hP
  have hD : va_D A [(q64, .inr (15, [.ref q65, .int 0, .int (-1), .int 1, .ref q67, .ref q68, .ref q70, .ref q72, .ref q86]))] := hD
  have hK : va_K (dC, dI) cls [] s := hK
  refine W.widen (k := 370) (n := 122520) (Nat.le_of_ble_eq_true rfl) (Nat.le_of_ble_eq_true rfl) ?_
  obtain rfl : r92 = 1 := hw
  refine lv_iload hx hb dL_law_1947 (lv_at hl 1 rfl) ?_
  refine lv_icmp_eq (tgt := 1954) hx hb dL_law_1949 (by decide) (fun _ => ?_) (fun c => absurd (by decide) c)
  refine lv_iload hx hb dL_law_1954 (lv_at hl 1 rfl) ?_
  refine lv_if_ne (tgt := 1971) hx hb dL_law_1956 (by decide) (fun _ => ?_) (fun c => absurd (by decide) c)
  refine lv_goto (tgt := 2818) hx hb dL_law_1971 (by decide) ?_
  refine lv_iinc (v := 7) (lv' := [(4, .int 7), (6, .int 0), (5, .int 1), (3, .ref q87), (2, .ref q64), (1, .ref q1), (0, .ref b)]) hx hb dL_law_2818 hl (k := 2) rfl (by decide) (by decide) rfl (fun ls hl => ?_)
  refine lv_goto (tgt := 23) hx hb dL_law_2821 (by decide) ?_
  refine lv_iload hx hb dL_law_23 (lv_at hl 0 rfl) ?_
  refine lv_aload_n hx hb dL_law_25 rfl (lv_at hl 6 rfl) ?_
  refine va_slen hx hb hX hbl hbA hS dL_law_26 ?_
  refine lv_topC (y := 7) rfl ?_
  refine lv_bipush (v := 7) hx hb dL_law_27 (by decide) ?_
  refine lv_isub hx hb dL_law_29 ?_
  refine lv_topC (y := 0) (by decide) ?_
  refine lv_icmp_gt (tgt := 2824) hx hb dL_law_30 (by decide) (fun _ => ?_) (fun c => absurd (by decide) c)
  refine lv_iconst (v := 1) hx hb dL_law_2824 (by decide) ?_
  refine va_forget (fun q hq => hA2 _ (hS.2.2 q hq)) ?_
  refine W.widen (k := 600002) (n := 7302232) (Nat.le_of_ble_eq_true rfl) (Nat.le_of_ble_eq_true rfl) ?_
  exact lw_ret (d0 := s.drawn) (Drawn.sameBut.refl s.drawn lw_cs) hx hb hr hlocks dL_law_2825
set_option maxHeartbeats 4000000 in
set_option maxRecDepth 100000 in
theorem law_31_b {zs : Nat × Nat} {p : Program} {e : Env} {s : State} {m : MethodId} {below : List Frame} {meth : Method} {c : Code} {l : Launch} {b : Nat} {xs : Nat → Int32} {dC : Nat → ClassId} {dI : Nat → Nat → Nat} {A : Nat → Prop} (C0 : lw_At p s m meth c b 7 xs) (hl9 : l.stackTraces = false) (hA : ∀ q, s.heap.size ≤ q → A q) (hA2 : ∀ q, A q → s.heap.size ≤ q) (hE : ENV zs A s s.heap) {H : Heap} {locs : List Loc} (q1 : Nat) (q2 : Nat) (q5 : Nat) (q14 : Nat) (q15 : Nat) (q16 : Nat) (q17 : Nat) (q29 : Nat) (q40 : Nat) (q51 : Nat) (q63 : Nat) (q64 : Nat) (q65 : Nat) (q67 : Nat) (q68 : Nat) (q70 : Nat) (q72 : Nat) (q86 : Nat) (q87 : Nat) (hP : va_P (dC, dI) cls [(q1, .inr (11, [.ref q2, .ref q5, .ref q14, .ref q15, .ref q16, .ref q17, .ref q51, .ref q63, .ref q29, .ref q40, .int (-1)])), (q64, .inr (15, [.ref q65, .int 0, .int (-1), .int 0, .ref q67, .ref q68, .ref q70, .ref q72, .ref q86]))] H) (hD : va_D A [(q1, .inr (11, [.ref q2, .ref q5, .ref q14, .ref q15, .ref q16, .ref q17, .ref q51, .ref q63, .ref q29, .ref q40, .int (-1)])), (q64, .inr (15, [.ref q65, .int 0, .int (-1), .int 0, .ref q67, .ref q68, .ref q70, .ref q72, .ref q86]))]) (hK : va_K (dC, dI) cls [] s) (hS : va_S A s.heap H locs) {ls : Array Slot} (hl : lv_has ls 9 [(4, .int 0), (3, .ref q87), (2, .ref q64), (1, .ref q1), (0, .ref b)]) (h1 : ¬ (xs 1) < 3) (h2 : 8 < (xs 1)) : W p l e room_1 s m #[Value.ref b] below meth c H locs 369 122514 (lw_Z below #[Value.ref b] s) (F0 m 1918 ls []) := by
  obtain ⟨hx, hb, hr, hml, hown, hts0, hX, hbl, hlocks, hgv⟩ := id C0
  have hts : ∀ w ∈ gw, w.before #[Value.ref b] s = true := fun w h => hts0 w (gw_tbl h)
  have hbA : ¬ A b := fun h => absurd (hA2 b h) (Nat.not_le.mpr hbl)
  refine lv_aload_n hx hb dL_law_1918 rfl (lv_at hl 3 rfl) ?_
  refine lv_aload_n hx hb dL_law_1919 rfl (lv_at hl 4 rfl) ?_
  refine lv_iload hx hb dL_law_1920 (lv_at hl 0 rfl) ?_
  refine lv_iconst (v := 1) hx hb dL_law_1922 (by decide) ?_
  refine lv_iadd hx hb dL_law_1923 ?_
  refine lv_topC (y := 1) (by decide) ?_
  refine va_sld hx hb hX hbl hbA hS (by unfold vp_in; decide +kernel) dL_law_1924 ?_
  refine lv_topC (y := xs 1) rfl ?_
  refine lv_aload_n hx hb dL_law_1925 rfl (lv_at hl 1 rfl) ?_
  have hPc := hP.sub (ws' := [(q1, .inr (11, [.ref q2, .ref q5, .ref q14, .ref q15, .ref q16, .ref q17, .ref q51, .ref q63, .ref q29, .ref q40, .int (-1)]))]) [0] rfl
  have hDc := hD.sub (ws' := [(q1, .inr (11, [.ref q2, .ref q5, .ref q14, .ref q15, .ref q16, .ref q17, .ref q51, .ref q63, .ref q29, .ref q40, .int (-1)]))]) [0] (by decide) rfl
  have hKc := hK.sub (tys' := []) [] rfl
  have hFc := va_free (wc := [(q1, .inr (11, [.ref q2, .ref q5, .ref q14, .ref q15, .ref q16, .ref q17, .ref q51, .ref q63, .ref q29, .ref q40, .int (-1)]))]) hD hS hA [0] rfl
  refine va_calli (vx_runSW (As := [.ref q1, .int (xs 1), .ref q87]) (rest := []) ⟨hx, hb, hml, hown, hts⟩ (kL_allocate_b l dC dI (gx := q1) (gq1 := q2) (gq4 := q5) (gq13 := q14) (gq136 := q15) (gq137 := q16) (gq138 := q17) (gq150 := q29) (gq161 := q40) (gq172 := q51) (gq184 := q63) (go := q87) (p0 := (xs 1)) (sz := _) (hl9 := hl9) (h1 := h1) (h2 := h2)) (vx_cwSW 3 hts (gi_S qw804 qw805 qw597 (gi_h qw803)) rfl rfl rfl (by decide +kernel) ⟨Nat.le_of_ble_eq_true rfl, Nat.le_of_ble_eq_true rfl⟩) ⟨PRE.blind, PRE.of hE hS hFc hPc hKc hDc⟩ rfl rfl hl.1 rfl (lv_room (Nat.le_of_ble_eq_true rfl)) dL_law_1926 ⟨Nat.le_of_ble_eq_true rfl, Nat.le_of_ble_eq_true rfl⟩) hS (fun q _ h => hFc q h) hFc (fun r90 u t H locs ht hvm hw hB hz1 hk1 hS => ?_)
  obtain ⟨hP, hD, hK⟩ := JOIN (wr := [(q64, .inr (15, [.ref q65, .int 0, .int (-1), .int 0, .ref q67, .ref q68, .ref q70, .ref q72, .ref q86]))]) hP hD hK [0] [1] [] rfl rfl (by decide) (by decide) rfl hk1 hFc ht hvm hB
  have hP : va_P (dC, dI) cls [(q64, .inr (15, [.ref q65, .int 0, .int (-1), .int 0, .ref q67, .ref q68, .ref q70, .ref q72, .ref q86]))] H := hP
  have hD : va_D A [(q64, .inr (15, [.ref q65, .int 0, .int (-1), .int 0, .ref q67, .ref q68, .ref q70, .ref q72, .ref q86]))] := hD
  have hK : va_K (dC, dI) cls [] s := hK
  refine W.widen (k := 370) (n := 122520) (Nat.le_of_ble_eq_true rfl) (Nat.le_of_ble_eq_true rfl) ?_
  obtain rfl : r90 = 1 := hw
  refine lv_istore (lv' := [(5, .int 1), (4, .int 0), (3, .ref q87), (2, .ref q64), (1, .ref q1), (0, .ref b)]) hx hb dL_law_1929 hl (by decide) rfl (fun ls hl => ?_)
  refine lv_aload_n hx hb dL_law_1931 rfl (lv_at hl 3 rfl) ?_
  refine lv_aload_n hx hb dL_law_1932 rfl (lv_at hl 5 rfl) ?_
  refine lv_iload hx hb dL_law_1933 (lv_at hl 1 rfl) ?_
  refine lv_iconst (v := 1) hx hb dL_law_1935 (by decide) ?_
  refine lv_iadd hx hb dL_law_1936 ?_
  refine lv_topC (y := 1) (by decide) ?_
  refine va_sld hx hb hX hbl hbA hS (by unfold vp_in; decide +kernel) dL_law_1937 ?_
  refine lv_topC (y := xs 1) rfl ?_
  have hPc := hP.sub (ws' := [(q64, .inr (15, [.ref q65, .int 0, .int (-1), .int 0, .ref q67, .ref q68, .ref q70, .ref q72, .ref q86]))]) [0] rfl
  have hDc := hD.sub (ws' := [(q64, .inr (15, [.ref q65, .int 0, .int (-1), .int 0, .ref q67, .ref q68, .ref q70, .ref q72, .ref q86]))]) [0] (by decide) rfl
  have hKc := hK.sub (tys' := []) [] rfl
  have hFc := va_free (wc := [(q64, .inr (15, [.ref q65, .int 0, .int (-1), .int 0, .ref q67, .ref q68, .ref q70, .ref q72, .ref q86]))]) hD hS hA [0] rfl
  refine va_calli (va_runV (As := [.int (xs 1)]) (rest := []) ⟨hx, hb, hml, hown, hts⟩ (kX24_allocate_b l dC dI (mx := q64) (mq1 := q65) (mq3 := q67) (mq4 := q68) (mq6 := q70) (mq8 := q72) (mq22 := q86) (p0 := (xs 1)) (sz := _) (h1 := h1) (h2 := h2)) (cwV 1 hts (gi_V qw807 qw808 qw809 qw406 (gi_z qw806)) rfl rfl rfl (by decide +kernel) ⟨Nat.le_of_ble_eq_true rfl, Nat.le_of_ble_eq_true rfl⟩) ⟨PRE.blind, va_recv hKc hPc (ci := 15) (q0 := 0) rfl rfl, PRE.of hE hS hFc hPc hKc hDc⟩ rfl rfl hl.1 rfl (lv_room (Nat.le_of_ble_eq_true rfl)) dL_law_1938 ⟨Nat.le_of_ble_eq_true rfl, Nat.le_of_ble_eq_true rfl⟩) hS (fun q _ h => hFc q h) hFc (fun r91 u t H locs ht hvm hw hB hz1 hk1 hS => ?_)
  obtain ⟨hP, hD, hK⟩ := JOIN (wr := []) hP hD hK [0] [] [] rfl rfl (by decide) (by decide) rfl hk1 hFc ht hvm hB
  have hP : va_P (dC, dI) cls [(q64, .inr (15, [.ref q65, .int 0, .int (-1), .int 1, .ref q67, .ref q68, .ref q70, .ref q72, .ref q86]))] H := hP
  have hD : va_D A [(q64, .inr (15, [.ref q65, .int 0, .int (-1), .int 1, .ref q67, .ref q68, .ref q70, .ref q72, .ref q86]))] := hD
  have hK : va_K (dC, dI) cls [] s := hK
  refine W.widen (k := 370) (n := 122520) (Nat.le_of_ble_eq_true rfl) (Nat.le_of_ble_eq_true rfl) ?_
  obtain rfl : r91 = 0 := hw
  refine lv_istore (lv' := [(6, .int 0), (5, .int 1), (4, .int 0), (3, .ref q87), (2, .ref q64), (1, .ref q1), (0, .ref b)]) hx hb dL_law_1941 hl (by decide) rfl (fun ls hl => ?_)
  refine lv_aload_n hx hb dL_law_1943 rfl (lv_at hl 4 rfl) ?_
  have hPc := hP.sub (ws' := [(q64, .inr (15, [.ref q65, .int 0, .int (-1), .int 1, .ref q67, .ref q68, .ref q70, .ref q72, .ref q86]))]) [0] rfl
  have hDc := hD.sub (ws' := [(q64, .inr (15, [.ref q65, .int 0, .int (-1), .int 1, .ref q67, .ref q68, .ref q70, .ref q72, .ref q86]))]) [0] (by decide) rfl
  have hKc := hK.sub (tys' := []) [] rfl
  have hFc := va_free (wc := [(q64, .inr (15, [.ref q65, .int 0, .int (-1), .int 1, .ref q67, .ref q68, .ref q70, .ref q72, .ref q86]))]) hD hS hA [0] rfl
  refine va_calli (va_runV (As := []) (rest := []) ⟨hx, hb, hml, hown, hts⟩ (kX24_thrown_n52 l dC dI (a0 := q64) (a60 := q65) (a62 := q68) (a64 := q70) (a66 := q72) (a82 := q67) (a83 := q86) (sz := _)) (cwV 0 hts (gi_V qw603 qw604 qw605 qw406 (gi_z qw602)) rfl rfl rfl (by decide +kernel) ⟨Nat.le_of_ble_eq_true rfl, Nat.le_of_ble_eq_true rfl⟩) ⟨PRE.blind, va_recv hKc hPc (ci := 15) (q0 := 0) rfl rfl, PRE.of hE hS hFc hPc hKc hDc⟩ rfl rfl hl.1 rfl (lv_room (Nat.le_of_ble_eq_true rfl)) dL_law_1944 ⟨Nat.le_of_ble_eq_true rfl, Nat.le_of_ble_eq_true rfl⟩) hS (fun q _ h => hFc q h) hFc (fun r92 u t H locs ht hvm hw hB hz1 hk1 hS => ?_)
  obtain ⟨hP, hD, hK⟩ := JOIN (wr := []) hP hD hK [0] [] [] rfl rfl (by decide) (by decide) rfl hk1 hFc ht hvm hB
  have hP : va_P (dC, dI) cls [(q64, .inr (15, [.ref q65, .int 0, .int (-1), .int 1, .ref q67, .ref q68, .ref q70, .ref q72, .ref q86]))] H := hP
  have hD : va_D A [(q64, .inr (15, [.ref q65, .int 0, .int (-1), .int 1, .ref q67, .ref q68, .ref q70, .ref q72, .ref q86]))] := hD
  have hK : va_K (dC, dI) cls [] s := hK
  refine W.widen (k := 370) (n := 122520) (Nat.le_of_ble_eq_true rfl) (Nat.le_of_ble_eq_true rfl) ?_
  obtain rfl : r92 = 1 := hw
  refine lv_iload hx hb dL_law_1947 (lv_at hl 1 rfl) ?_
  refine lv_icmp_eq (tgt := 1954) hx hb dL_law_1949 (by decide) (fun _ => ?_) (fun c => absurd (by decide) c)
  refine lv_iload hx hb dL_law_1954 (lv_at hl 1 rfl) ?_
  refine lv_if_ne (tgt := 1971) hx hb dL_law_1956 (by decide) (fun _ => ?_) (fun c => absurd (by decide) c)
  refine lv_goto (tgt := 2818) hx hb dL_law_1971 (by decide) ?_
  refine lv_iinc (v := 7) (lv' := [(4, .int 7), (6, .int 0), (5, .int 1), (3, .ref q87), (2, .ref q64), (1, .ref q1), (0, .ref b)]) hx hb dL_law_2818 hl (k := 2) rfl (by decide) (by decide) rfl (fun ls hl => ?_)
  refine lv_goto (tgt := 23) hx hb dL_law_2821 (by decide) ?_
  refine lv_iload hx hb dL_law_23 (lv_at hl 0 rfl) ?_
  refine lv_aload_n hx hb dL_law_25 rfl (lv_at hl 6 rfl) ?_
  refine va_slen hx hb hX hbl hbA hS dL_law_26 ?_
  refine lv_topC (y := 7) rfl ?_
  refine lv_bipush (v := 7) hx hb dL_law_27 (by decide) ?_
  refine lv_isub hx hb dL_law_29 ?_
  refine lv_topC (y := 0) (by decide) ?_
  refine lv_icmp_gt (tgt := 2824) hx hb dL_law_30 (by decide) (fun _ => ?_) (fun c => absurd (by decide) c)
  refine lv_iconst (v := 1) hx hb dL_law_2824 (by decide) ?_
  refine va_forget (fun q hq => hA2 _ (hS.2.2 q hq)) ?_
  refine W.widen (k := 600002) (n := 7302232) (Nat.le_of_ble_eq_true rfl) (Nat.le_of_ble_eq_true rfl) ?_
  exact lw_ret (d0 := s.drawn) (Drawn.sameBut.refl s.drawn lw_cs) hx hb hr hlocks dL_law_2825
set_option maxHeartbeats 4000000 in
set_option maxRecDepth 100000 in
theorem law_31_c {zs : Nat × Nat} {p : Program} {e : Env} {s : State} {m : MethodId} {below : List Frame} {meth : Method} {c : Code} {l : Launch} {b : Nat} {xs : Nat → Int32} {dC : Nat → ClassId} {dI : Nat → Nat → Nat} {A : Nat → Prop} (C0 : lw_At p s m meth c b 7 xs) (hl9 : l.stackTraces = false) (hA : ∀ q, s.heap.size ≤ q → A q) (hA2 : ∀ q, A q → s.heap.size ≤ q) (hE : ENV zs A s s.heap) {H : Heap} {locs : List Loc} (q1 : Nat) (q2 : Nat) (q5 : Nat) (q14 : Nat) (q15 : Nat) (q16 : Nat) (q17 : Nat) (q29 : Nat) (q30 : Nat) (q31 : Nat) (q32 : Nat) (q33 : Nat) (q34 : Nat) (q35 : Nat) (q36 : Nat) (q37 : Nat) (q38 : Nat) (q39 : Nat) (q40 : Nat) (q51 : Nat) (q63 : Nat) (q64 : Nat) (q65 : Nat) (q67 : Nat) (q68 : Nat) (c69 : ClassId) (q70 : Nat) (q72 : Nat) (q86 : Nat) (q87 : Nat) (hP : va_P (dC, dI) cls [(q1, .inr (11, [.ref q2, .ref q5, .ref q14, .ref q15, .ref q16, .ref q17, .ref q51, .ref q63, .ref q29, .ref q40, .int (-1)])), (q29, .inr (2, [.int 0, .ref q30, .ref q31, .ref q32, .ref q33, .ref q34, .ref q35, .int 0, .ref q36, .ref q37, .ref q38, .int 0, .ref q39])), (q64, .inr (15, [.ref q65, .int 0, .int (-1), .int 0, .ref q67, .ref q68, .ref q70, .ref q72, .ref q86])), (q68, .inl (c69, 0, .inr (.inr (.inr (.inr (fun _ => none))))))] H) (hD : va_D A [(q1, .inr (11, [.ref q2, .ref q5, .ref q14, .ref q15, .ref q16, .ref q17, .ref q51, .ref q63, .ref q29, .ref q40, .int (-1)])), (q29, .inr (2, [.int 0, .ref q30, .ref q31, .ref q32, .ref q33, .ref q34, .ref q35, .int 0, .ref q36, .ref q37, .ref q38, .int 0, .ref q39])), (q64, .inr (15, [.ref q65, .int 0, .int (-1), .int 0, .ref q67, .ref q68, .ref q70, .ref q72, .ref q86])), (q68, .inl (c69, 0, .inr (.inr (.inr (.inr (fun _ => none))))))]) (hK : va_K (dC, dI) cls [(c69, .object RX14)] s) (hS : va_S A s.heap H locs) {ls : Array Slot} (hl : lv_has ls 9 [(4, .int 0), (3, .ref q87), (2, .ref q64), (1, .ref q1), (0, .ref b)]) (h1 : ¬ (xs 1) < 3) (h2 : ¬ 8 < (xs 1)) : W p l e room_1 s m #[Value.ref b] below meth c H locs 369 122514 (lw_Z below #[Value.ref b] s) (F0 m 1918 ls []) := by
  obtain ⟨hx, hb, hr, hml, hown, hts0, hX, hbl, hlocks, hgv⟩ := id C0
  have hts : ∀ w ∈ gw, w.before #[Value.ref b] s = true := fun w h => hts0 w (gw_tbl h)
  have hbA : ¬ A b := fun h => absurd (hA2 b h) (Nat.not_le.mpr hbl)
  refine lv_aload_n hx hb dL_law_1918 rfl (lv_at hl 3 rfl) ?_
  refine lv_aload_n hx hb dL_law_1919 rfl (lv_at hl 4 rfl) ?_
  refine lv_iload hx hb dL_law_1920 (lv_at hl 0 rfl) ?_
  refine lv_iconst (v := 1) hx hb dL_law_1922 (by decide) ?_
  refine lv_iadd hx hb dL_law_1923 ?_
  refine lv_topC (y := 1) (by decide) ?_
  refine va_sld hx hb hX hbl hbA hS (by unfold vp_in; decide +kernel) dL_law_1924 ?_
  refine lv_topC (y := xs 1) rfl ?_
  refine lv_aload_n hx hb dL_law_1925 rfl (lv_at hl 1 rfl) ?_
  have hPc := hP.sub (ws' := [(q1, .inr (11, [.ref q2, .ref q5, .ref q14, .ref q15, .ref q16, .ref q17, .ref q51, .ref q63, .ref q29, .ref q40, .int (-1)])), (q29, .inr (2, [.int 0, .ref q30, .ref q31, .ref q32, .ref q33, .ref q34, .ref q35, .int 0, .ref q36, .ref q37, .ref q38, .int 0, .ref q39]))]) [0, 1] rfl
  have hDc := hD.sub (ws' := [(q1, .inr (11, [.ref q2, .ref q5, .ref q14, .ref q15, .ref q16, .ref q17, .ref q51, .ref q63, .ref q29, .ref q40, .int (-1)])), (q29, .inr (2, [.int 0, .ref q30, .ref q31, .ref q32, .ref q33, .ref q34, .ref q35, .int 0, .ref q36, .ref q37, .ref q38, .int 0, .ref q39]))]) [0, 1] (by decide) rfl
  have hKc := hK.sub (tys' := []) [] rfl
  have hFc := va_free (wc := [(q1, .inr (11, [.ref q2, .ref q5, .ref q14, .ref q15, .ref q16, .ref q17, .ref q51, .ref q63, .ref q29, .ref q40, .int (-1)])), (q29, .inr (2, [.int 0, .ref q30, .ref q31, .ref q32, .ref q33, .ref q34, .ref q35, .int 0, .ref q36, .ref q37, .ref q38, .int 0, .ref q39]))]) hD hS hA [0, 1] rfl
  refine va_calli (vx_runSW (As := [.ref q1, .int (xs 1), .ref q87]) (rest := []) ⟨hx, hb, hml, hown, hts⟩ (kL_allocate_c l dC dI (gx := q1) (gq1 := q2) (gq4 := q5) (gq13 := q14) (gq136 := q15) (gq137 := q16) (gq138 := q17) (gq150 := q29) (gq151 := q30) (gq152 := q31) (gq153 := q32) (gq154 := q33) (gq155 := q34) (gq156 := q35) (gq157 := q36) (gq158 := q37) (gq159 := q38) (gq160 := q39) (gq161 := q40) (gq172 := q51) (gq184 := q63) (go := q87) (p0 := (xs 1)) (sz := _) (hl9 := hl9) (h1 := h1) (h2 := h2)) (vx_cwSW 3 hts (gi_S qw804 qw805 qw597 (gi_h qw803)) rfl rfl rfl (by decide +kernel) ⟨Nat.le_of_ble_eq_true rfl, Nat.le_of_ble_eq_true rfl⟩) ⟨PRE.blind, PRE.of hE hS hFc hPc hKc hDc⟩ rfl rfl hl.1 rfl (lv_room (Nat.le_of_ble_eq_true rfl)) dL_law_1926 ⟨Nat.le_of_ble_eq_true rfl, Nat.le_of_ble_eq_true rfl⟩) hS (fun q _ h => hFc q h) hFc (fun r90 u t H locs ht hvm hw hB hz1 hk1 hS => ?_)
  obtain ⟨hP, hD, hK⟩ := JOIN (wr := [(q64, .inr (15, [.ref q65, .int 0, .int (-1), .int 0, .ref q67, .ref q68, .ref q70, .ref q72, .ref q86])), (q68, .inl (c69, 0, .inr (.inr (.inr (.inr (fun _ => none))))))]) hP hD hK [0, 1] [2, 3] [0] rfl rfl (by decide) (by decide) rfl hk1 hFc ht hvm hB
  have hP : va_P (dC, dI) cls [(q64, .inr (15, [.ref q65, .int 0, .int (-1), .int 0, .ref q67, .ref q68, .ref q70, .ref q72, .ref q86])), (q68, .inl (c69, 0, .inr (.inr (.inr (.inr (fun _ => none))))))] H := hP
  have hD : va_D A [(q64, .inr (15, [.ref q65, .int 0, .int (-1), .int 0, .ref q67, .ref q68, .ref q70, .ref q72, .ref q86])), (q68, .inl (c69, 0, .inr (.inr (.inr (.inr (fun _ => none))))))] := hD
  have hK : va_K (dC, dI) cls [(c69, .object RX14)] s := hK
  refine W.widen (k := 370) (n := 122520) (Nat.le_of_ble_eq_true rfl) (Nat.le_of_ble_eq_true rfl) ?_
  obtain rfl : r90 = 2 := hw
  refine lv_istore (lv' := [(5, .int 2), (4, .int 0), (3, .ref q87), (2, .ref q64), (1, .ref q1), (0, .ref b)]) hx hb dL_law_1929 hl (by decide) rfl (fun ls hl => ?_)
  refine lv_aload_n hx hb dL_law_1931 rfl (lv_at hl 3 rfl) ?_
  refine lv_aload_n hx hb dL_law_1932 rfl (lv_at hl 5 rfl) ?_
  refine lv_iload hx hb dL_law_1933 (lv_at hl 1 rfl) ?_
  refine lv_iconst (v := 1) hx hb dL_law_1935 (by decide) ?_
  refine lv_iadd hx hb dL_law_1936 ?_
  refine lv_topC (y := 1) (by decide) ?_
  refine va_sld hx hb hX hbl hbA hS (by unfold vp_in; decide +kernel) dL_law_1937 ?_
  refine lv_topC (y := xs 1) rfl ?_
  have hPc := hP.sub (ws' := [(q64, .inr (15, [.ref q65, .int 0, .int (-1), .int 0, .ref q67, .ref q68, .ref q70, .ref q72, .ref q86])), (q68, .inl (c69, 0, .inr (.inr (.inr (.inr (fun _ => none))))))]) [0, 1] rfl
  have hDc := hD.sub (ws' := [(q64, .inr (15, [.ref q65, .int 0, .int (-1), .int 0, .ref q67, .ref q68, .ref q70, .ref q72, .ref q86])), (q68, .inl (c69, 0, .inr (.inr (.inr (.inr (fun _ => none))))))]) [0, 1] (by decide) rfl
  have hKc := hK.sub (tys' := [(c69, .object RX14)]) [0] rfl
  have hFc := va_free (wc := [(q64, .inr (15, [.ref q65, .int 0, .int (-1), .int 0, .ref q67, .ref q68, .ref q70, .ref q72, .ref q86])), (q68, .inl (c69, 0, .inr (.inr (.inr (.inr (fun _ => none))))))]) hD hS hA [0, 1] rfl
  refine va_calli (va_runV (As := [.int (xs 1)]) (rest := []) ⟨hx, hb, hml, hown, hts⟩ (kX24_allocate_c l dC dI (mx := q64) (mq1 := q65) (mq3 := q67) (mq4 := q68) (mc5 := c69) (mq6 := q70) (mq8 := q72) (mq22 := q86) (p0 := (xs 1)) (sz := _) (h1 := h1) (h2 := h2)) (cwV 1 hts (gi_V qw807 qw808 qw809 qw406 (gi_z qw806)) rfl rfl rfl (by decide +kernel) ⟨Nat.le_of_ble_eq_true rfl, Nat.le_of_ble_eq_true rfl⟩) ⟨PRE.blind, va_recv hKc hPc (ci := 15) (q0 := 0) rfl rfl, PRE.of hE hS hFc hPc hKc hDc⟩ rfl rfl hl.1 rfl (lv_room (Nat.le_of_ble_eq_true rfl)) dL_law_1938 ⟨Nat.le_of_ble_eq_true rfl, Nat.le_of_ble_eq_true rfl⟩) hS (fun q _ h => hFc q h) hFc (fun r91 u t H locs ht hvm hw hB hz1 hk1 hS => ?_)
  obtain ⟨hP, hD, hK⟩ := JOIN (wr := []) hP hD hK [0, 1] [] [] rfl rfl (by decide) (by decide) rfl hk1 hFc ht hvm hB
  have hP : va_P (dC, dI) cls [(q64, .inr (15, [.ref q65, .int 0, .int (-1), .int 2, .ref q67, .ref q68, .ref q70, .ref q72, .ref q86]))] H := hP
  have hD : va_D A [(q64, .inr (15, [.ref q65, .int 0, .int (-1), .int 2, .ref q67, .ref q68, .ref q70, .ref q72, .ref q86]))] := hD
  have hK : va_K (dC, dI) cls [] s := hK
  refine W.widen (k := 370) (n := 122520) (Nat.le_of_ble_eq_true rfl) (Nat.le_of_ble_eq_true rfl) ?_
  obtain rfl : r91 = 0 := hw
  refine lv_istore (lv' := [(6, .int 0), (5, .int 2), (4, .int 0), (3, .ref q87), (2, .ref q64), (1, .ref q1), (0, .ref b)]) hx hb dL_law_1941 hl (by decide) rfl (fun ls hl => ?_)
  refine lv_aload_n hx hb dL_law_1943 rfl (lv_at hl 4 rfl) ?_
  have hPc := hP.sub (ws' := [(q64, .inr (15, [.ref q65, .int 0, .int (-1), .int 2, .ref q67, .ref q68, .ref q70, .ref q72, .ref q86]))]) [0] rfl
  have hDc := hD.sub (ws' := [(q64, .inr (15, [.ref q65, .int 0, .int (-1), .int 2, .ref q67, .ref q68, .ref q70, .ref q72, .ref q86]))]) [0] (by decide) rfl
  have hKc := hK.sub (tys' := []) [] rfl
  have hFc := va_free (wc := [(q64, .inr (15, [.ref q65, .int 0, .int (-1), .int 2, .ref q67, .ref q68, .ref q70, .ref q72, .ref q86]))]) hD hS hA [0] rfl
  refine va_calli (va_runV (As := []) (rest := []) ⟨hx, hb, hml, hown, hts⟩ (kX24_thrown_n54 l dC dI (a0 := q64) (a50 := q65) (a52 := q70) (a54 := q72) (a70 := q67) (a71 := q68) (a72 := q86) (sz := _)) (cwV 0 hts (gi_V qw603 qw604 qw605 qw406 (gi_z qw602)) rfl rfl rfl (by decide +kernel) ⟨Nat.le_of_ble_eq_true rfl, Nat.le_of_ble_eq_true rfl⟩) ⟨PRE.blind, va_recv hKc hPc (ci := 15) (q0 := 0) rfl rfl, PRE.of hE hS hFc hPc hKc hDc⟩ rfl rfl hl.1 rfl (lv_room (Nat.le_of_ble_eq_true rfl)) dL_law_1944 ⟨Nat.le_of_ble_eq_true rfl, Nat.le_of_ble_eq_true rfl⟩) hS (fun q _ h => hFc q h) hFc (fun r92 u t H locs ht hvm hw hB hz1 hk1 hS => ?_)
  obtain ⟨hP, hD, hK⟩ := JOIN (wr := []) hP hD hK [0] [] [] rfl rfl (by decide) (by decide) rfl hk1 hFc ht hvm hB
  have hP : va_P (dC, dI) cls [(q64, .inr (15, [.ref q65, .int 0, .int (-1), .int 2, .ref q67, .ref q68, .ref q70, .ref q72, .ref q86]))] H := hP
  have hD : va_D A [(q64, .inr (15, [.ref q65, .int 0, .int (-1), .int 2, .ref q67, .ref q68, .ref q70, .ref q72, .ref q86]))] := hD
  have hK : va_K (dC, dI) cls [] s := hK
  refine W.widen (k := 370) (n := 122520) (Nat.le_of_ble_eq_true rfl) (Nat.le_of_ble_eq_true rfl) ?_
  obtain rfl : r92 = 2 := hw
  refine lv_iload hx hb dL_law_1947 (lv_at hl 1 rfl) ?_
  refine lv_icmp_eq (tgt := 1954) hx hb dL_law_1949 (by decide) (fun _ => ?_) (fun c => absurd (by decide) c)
  refine lv_iload hx hb dL_law_1954 (lv_at hl 1 rfl) ?_
  refine lv_if_ne (tgt := 1971) hx hb dL_law_1956 (by decide) (fun _ => ?_) (fun c => absurd (by decide) c)
  refine lv_goto (tgt := 2818) hx hb dL_law_1971 (by decide) ?_
  refine lv_iinc (v := 7) (lv' := [(4, .int 7), (6, .int 0), (5, .int 2), (3, .ref q87), (2, .ref q64), (1, .ref q1), (0, .ref b)]) hx hb dL_law_2818 hl (k := 2) rfl (by decide) (by decide) rfl (fun ls hl => ?_)
  refine lv_goto (tgt := 23) hx hb dL_law_2821 (by decide) ?_
  refine lv_iload hx hb dL_law_23 (lv_at hl 0 rfl) ?_
  refine lv_aload_n hx hb dL_law_25 rfl (lv_at hl 6 rfl) ?_
  refine va_slen hx hb hX hbl hbA hS dL_law_26 ?_
  refine lv_topC (y := 7) rfl ?_
  refine lv_bipush (v := 7) hx hb dL_law_27 (by decide) ?_
  refine lv_isub hx hb dL_law_29 ?_
  refine lv_topC (y := 0) (by decide) ?_
  refine lv_icmp_gt (tgt := 2824) hx hb dL_law_30 (by decide) (fun _ => ?_) (fun c => absurd (by decide) c)
  refine lv_iconst (v := 1) hx hb dL_law_2824 (by decide) ?_
  refine va_forget (fun q hq => hA2 _ (hS.2.2 q hq)) ?_
  refine W.widen (k := 600002) (n := 7302232) (Nat.le_of_ble_eq_true rfl) (Nat.le_of_ble_eq_true rfl) ?_
  exact lw_ret (d0 := s.drawn) (Drawn.sameBut.refl s.drawn lw_cs) hx hb hr hlocks dL_law_2825
set_option maxHeartbeats 4000000 in
set_option maxRecDepth 100000 in
theorem law_32 {zs : Nat × Nat} {p : Program} {e : Env} {s : State} {m : MethodId} {below : List Frame} {meth : Method} {c : Code} {l : Launch} {b : Nat} {xs : Nat → Int32} {dC : Nat → ClassId} {dI : Nat → Nat → Nat} {A : Nat → Prop} (C0 : lw_At p s m meth c b 7 xs) (hl9 : l.stackTraces = false) (hA : ∀ q, s.heap.size ≤ q → A q) (hA2 : ∀ q, A q → s.heap.size ≤ q) (hE : ENV zs A s s.heap) {H : Heap} {locs : List Loc} (q1 : Nat) (q2 : Nat) (q5 : Nat) (q14 : Nat) (q15 : Nat) (q16 : Nat) (q17 : Nat) (q29 : Nat) (q30 : Nat) (q31 : Nat) (q32 : Nat) (q33 : Nat) (q34 : Nat) (q35 : Nat) (q36 : Nat) (q37 : Nat) (q38 : Nat) (q39 : Nat) (q40 : Nat) (q51 : Nat) (q63 : Nat) (q64 : Nat) (q65 : Nat) (q67 : Nat) (q68 : Nat) (c69 : ClassId) (q70 : Nat) (q72 : Nat) (q86 : Nat) (q87 : Nat) (hP : va_P (dC, dI) cls [(q1, .inr (11, [.ref q2, .ref q5, .ref q14, .ref q15, .ref q16, .ref q17, .ref q51, .ref q63, .ref q29, .ref q40, .int (-1)])), (q29, .inr (2, [.int 0, .ref q30, .ref q31, .ref q32, .ref q33, .ref q34, .ref q35, .int 0, .ref q36, .ref q37, .ref q38, .int 0, .ref q39])), (q64, .inr (15, [.ref q65, .int 0, .int (-1), .int 0, .ref q67, .ref q68, .ref q70, .ref q72, .ref q86])), (q68, .inl (c69, 0, .inr (.inr (.inr (.inr (fun _ => none))))))] H) (hD : va_D A [(q1, .inr (11, [.ref q2, .ref q5, .ref q14, .ref q15, .ref q16, .ref q17, .ref q51, .ref q63, .ref q29, .ref q40, .int (-1)])), (q29, .inr (2, [.int 0, .ref q30, .ref q31, .ref q32, .ref q33, .ref q34, .ref q35, .int 0, .ref q36, .ref q37, .ref q38, .int 0, .ref q39])), (q64, .inr (15, [.ref q65, .int 0, .int (-1), .int 0, .ref q67, .ref q68, .ref q70, .ref q72, .ref q86])), (q68, .inl (c69, 0, .inr (.inr (.inr (.inr (fun _ => none))))))]) (hK : va_K (dC, dI) cls [(c69, .object RX14)] s) (hS : va_S A s.heap H locs) {ls : Array Slot} (hl : lv_has ls 9 [(4, .int 0), (3, .ref q87), (2, .ref q64), (1, .ref q1), (0, .ref b)])  : W p l e room_1 s m #[Value.ref b] below meth c H locs 369 122514 (lw_Z below #[Value.ref b] s) (F0 m 1974 ls []) := by
  obtain ⟨hx, hb, hr, hml, hown, hts0, hX, hbl, hlocks, hgv⟩ := id C0
  have hts : ∀ w ∈ gw, w.before #[Value.ref b] s = true := fun w h => hts0 w (gw_tbl h)
  have hbA : ¬ A b := fun h => absurd (hA2 b h) (Nat.not_le.mpr hbl)
  refine lv_aload_n hx hb dL_law_1974 rfl (lv_at hl 3 rfl) ?_
  refine lv_aload_n hx hb dL_law_1975 rfl (lv_at hl 4 rfl) ?_
  refine lv_iload hx hb dL_law_1976 (lv_at hl 0 rfl) ?_
  refine lv_iconst (v := 1) hx hb dL_law_1978 (by decide) ?_
  refine lv_iadd hx hb dL_law_1979 ?_
  refine lv_topC (y := 1) (by decide) ?_
  refine va_sld hx hb hX hbl hbA hS (by unfold vp_in; decide +kernel) dL_law_1980 ?_
  refine lv_topC (y := xs 1) rfl ?_
  refine lv_aload_n hx hb dL_law_1981 rfl (lv_at hl 1 rfl) ?_
  have hPc := hP.sub (ws' := [(q1, .inr (11, [.ref q2, .ref q5, .ref q14, .ref q15, .ref q16, .ref q17, .ref q51, .ref q63, .ref q29, .ref q40, .int (-1)])), (q29, .inr (2, [.int 0, .ref q30, .ref q31, .ref q32, .ref q33, .ref q34, .ref q35, .int 0, .ref q36, .ref q37, .ref q38, .int 0, .ref q39]))]) [0, 1] rfl
  have hDc := hD.sub (ws' := [(q1, .inr (11, [.ref q2, .ref q5, .ref q14, .ref q15, .ref q16, .ref q17, .ref q51, .ref q63, .ref q29, .ref q40, .int (-1)])), (q29, .inr (2, [.int 0, .ref q30, .ref q31, .ref q32, .ref q33, .ref q34, .ref q35, .int 0, .ref q36, .ref q37, .ref q38, .int 0, .ref q39]))]) [0, 1] (by decide) rfl
  have hKc := hK.sub (tys' := []) [] rfl
  have hFc := va_free (wc := [(q1, .inr (11, [.ref q2, .ref q5, .ref q14, .ref q15, .ref q16, .ref q17, .ref q51, .ref q63, .ref q29, .ref q40, .int (-1)])), (q29, .inr (2, [.int 0, .ref q30, .ref q31, .ref q32, .ref q33, .ref q34, .ref q35, .int 0, .ref q36, .ref q37, .ref q38, .int 0, .ref q39]))]) hD hS hA [0, 1] rfl
  refine va_calli (vx_runSW (As := [.ref q1, .int (xs 1), .ref q87]) (rest := []) ⟨hx, hb, hml, hown, hts⟩ (kL_lines l dC dI (gx := q1) (gq1 := q2) (gq4 := q5) (gq13 := q14) (gq136 := q15) (gq137 := q16) (gq138 := q17) (gq150 := q29) (gq151 := q30) (gq152 := q31) (gq153 := q32) (gq154 := q33) (gq155 := q34) (gq156 := q35) (gq157 := q36) (gq158 := q37) (gq159 := q38) (gq160 := q39) (gq161 := q40) (gq172 := q51) (gq184 := q63) (go := q87) (p0 := (xs 1)) (sz := _) (hl9 := hl9)) (vx_cwSW 3 hts (gi_S qw811 qw812 qw597 (gi_h qw810)) rfl rfl rfl (by decide +kernel) ⟨Nat.le_of_ble_eq_true rfl, Nat.le_of_ble_eq_true rfl⟩) ⟨PRE.blind, PRE.of hE hS hFc hPc hKc hDc⟩ rfl rfl hl.1 rfl (lv_room (Nat.le_of_ble_eq_true rfl)) dL_law_1982 ⟨Nat.le_of_ble_eq_true rfl, Nat.le_of_ble_eq_true rfl⟩) hS (fun q _ h => hFc q h) hFc (fun r90 u t H locs ht hvm hw hB hz1 hk1 hS => ?_)
  obtain ⟨hP, hD, hK⟩ := JOIN (wr := [(q64, .inr (15, [.ref q65, .int 0, .int (-1), .int 0, .ref q67, .ref q68, .ref q70, .ref q72, .ref q86])), (q68, .inl (c69, 0, .inr (.inr (.inr (.inr (fun _ => none))))))]) hP hD hK [0, 1] [2, 3] [0] rfl rfl (by decide) (by decide) rfl hk1 hFc ht hvm hB
  have hP : va_P (dC, dI) cls [(q64, .inr (15, [.ref q65, .int 0, .int (-1), .int 0, .ref q67, .ref q68, .ref q70, .ref q72, .ref q86])), (q68, .inl (c69, 0, .inr (.inr (.inr (.inr (fun _ => none))))))] H := hP
  have hD : va_D A [(q64, .inr (15, [.ref q65, .int 0, .int (-1), .int 0, .ref q67, .ref q68, .ref q70, .ref q72, .ref q86])), (q68, .inl (c69, 0, .inr (.inr (.inr (.inr (fun _ => none))))))] := hD
  have hK : va_K (dC, dI) cls [(c69, .object RX14)] s := hK
  refine W.widen (k := 370) (n := 122520) (Nat.le_of_ble_eq_true rfl) (Nat.le_of_ble_eq_true rfl) ?_
  obtain rfl : r90 = 1 := hw
  refine lv_istore (lv' := [(5, .int 1), (4, .int 0), (3, .ref q87), (2, .ref q64), (1, .ref q1), (0, .ref b)]) hx hb dL_law_1985 hl (by decide) rfl (fun ls hl => ?_)
  refine lv_aload_n hx hb dL_law_1987 rfl (lv_at hl 3 rfl) ?_
  refine lv_aload_n hx hb dL_law_1988 rfl (lv_at hl 5 rfl) ?_
  refine lv_iload hx hb dL_law_1989 (lv_at hl 1 rfl) ?_
  refine lv_iconst (v := 1) hx hb dL_law_1991 (by decide) ?_
  refine lv_iadd hx hb dL_law_1992 ?_
  refine lv_topC (y := 1) (by decide) ?_
  refine va_sld hx hb hX hbl hbA hS (by unfold vp_in; decide +kernel) dL_law_1993 ?_
  refine lv_topC (y := xs 1) rfl ?_
  have hPc := hP.sub (ws' := [(q64, .inr (15, [.ref q65, .int 0, .int (-1), .int 0, .ref q67, .ref q68, .ref q70, .ref q72, .ref q86])), (q68, .inl (c69, 0, .inr (.inr (.inr (.inr (fun _ => none))))))]) [0, 1] rfl
  have hDc := hD.sub (ws' := [(q64, .inr (15, [.ref q65, .int 0, .int (-1), .int 0, .ref q67, .ref q68, .ref q70, .ref q72, .ref q86])), (q68, .inl (c69, 0, .inr (.inr (.inr (.inr (fun _ => none))))))]) [0, 1] (by decide) rfl
  have hKc := hK.sub (tys' := [(c69, .object RX14)]) [0] rfl
  have hFc := va_free (wc := [(q64, .inr (15, [.ref q65, .int 0, .int (-1), .int 0, .ref q67, .ref q68, .ref q70, .ref q72, .ref q86])), (q68, .inl (c69, 0, .inr (.inr (.inr (.inr (fun _ => none))))))]) hD hS hA [0, 1] rfl
  refine va_calli (va_runV (As := [.int (xs 1)]) (rest := []) ⟨hx, hb, hml, hown, hts⟩ (kX24_lines l dC dI (mx := q64) (mq1 := q65) (mq3 := q67) (mq4 := q68) (mc5 := c69) (mq6 := q70) (mq8 := q72) (mq22 := q86) (p0 := (xs 1)) (sz := _)) (cwV 1 hts (gi_V qw814 qw815 qw816 qw406 (gi_z qw813)) rfl rfl rfl (by decide +kernel) ⟨Nat.le_of_ble_eq_true rfl, Nat.le_of_ble_eq_true rfl⟩) ⟨PRE.blind, va_recv hKc hPc (ci := 15) (q0 := 0) rfl rfl, PRE.of hE hS hFc hPc hKc hDc⟩ rfl rfl hl.1 rfl (lv_room (Nat.le_of_ble_eq_true rfl)) dL_law_1994 ⟨Nat.le_of_ble_eq_true rfl, Nat.le_of_ble_eq_true rfl⟩) hS (fun q _ h => hFc q h) hFc (fun r91 u t H locs ht hvm hw hB hz1 hk1 hS => ?_)
  obtain ⟨hP, hD, hK⟩ := JOIN (wr := []) hP hD hK [0, 1] [] [] rfl rfl (by decide) (by decide) rfl hk1 hFc ht hvm hB
  have hP : va_P (dC, dI) cls [(q64, .inr (15, [.ref q65, .int 0, .int (-1), .int 1, .ref q67, .ref q68, .ref q70, .ref q72, .ref q86]))] H := hP
  have hD : va_D A [(q64, .inr (15, [.ref q65, .int 0, .int (-1), .int 1, .ref q67, .ref q68, .ref q70, .ref q72, .ref q86]))] := hD
  have hK : va_K (dC, dI) cls [] s := hK
  refine W.widen (k := 370) (n := 122520) (Nat.le_of_ble_eq_true rfl) (Nat.le_of_ble_eq_true rfl) ?_
  obtain rfl : r91 = 0 := hw
  refine lv_istore (lv' := [(6, .int 0), (5, .int 1), (4, .int 0), (3, .ref q87), (2, .ref q64), (1, .ref q1), (0, .ref b)]) hx hb dL_law_1997 hl (by decide) rfl (fun ls hl => ?_)
  refine lv_aload_n hx hb dL_law_1999 rfl (lv_at hl 4 rfl) ?_
  have hPc := hP.sub (ws' := [(q64, .inr (15, [.ref q65, .int 0, .int (-1), .int 1, .ref q67, .ref q68, .ref q70, .ref q72, .ref q86]))]) [0] rfl
  have hDc := hD.sub (ws' := [(q64, .inr (15, [.ref q65, .int 0, .int (-1), .int 1, .ref q67, .ref q68, .ref q70, .ref q72, .ref q86]))]) [0] (by decide) rfl
  have hKc := hK.sub (tys' := []) [] rfl
  have hFc := va_free (wc := [(q64, .inr (15, [.ref q65, .int 0, .int (-1), .int 1, .ref q67, .ref q68, .ref q70, .ref q72, .ref q86]))]) hD hS hA [0] rfl
  refine va_calli (va_runV (As := []) (rest := []) ⟨hx, hb, hml, hown, hts⟩ (kX24_thrown_n52 l dC dI (a0 := q64) (a60 := q65) (a62 := q68) (a64 := q70) (a66 := q72) (a82 := q67) (a83 := q86) (sz := _)) (cwV 0 hts (gi_V qw603 qw604 qw605 qw406 (gi_z qw602)) rfl rfl rfl (by decide +kernel) ⟨Nat.le_of_ble_eq_true rfl, Nat.le_of_ble_eq_true rfl⟩) ⟨PRE.blind, va_recv hKc hPc (ci := 15) (q0 := 0) rfl rfl, PRE.of hE hS hFc hPc hKc hDc⟩ rfl rfl hl.1 rfl (lv_room (Nat.le_of_ble_eq_true rfl)) dL_law_2000 ⟨Nat.le_of_ble_eq_true rfl, Nat.le_of_ble_eq_true rfl⟩) hS (fun q _ h => hFc q h) hFc (fun r92 u t H locs ht hvm hw hB hz1 hk1 hS => ?_)
  obtain ⟨hP, hD, hK⟩ := JOIN (wr := []) hP hD hK [0] [] [] rfl rfl (by decide) (by decide) rfl hk1 hFc ht hvm hB
  have hP : va_P (dC, dI) cls [(q64, .inr (15, [.ref q65, .int 0, .int (-1), .int 1, .ref q67, .ref q68, .ref q70, .ref q72, .ref q86]))] H := hP
  have hD : va_D A [(q64, .inr (15, [.ref q65, .int 0, .int (-1), .int 1, .ref q67, .ref q68, .ref q70, .ref q72, .ref q86]))] := hD
  have hK : va_K (dC, dI) cls [] s := hK
  refine W.widen (k := 370) (n := 122520) (Nat.le_of_ble_eq_true rfl) (Nat.le_of_ble_eq_true rfl) ?_
  obtain rfl : r92 = 1 := hw
  refine lv_iload hx hb dL_law_2003 (lv_at hl 1 rfl) ?_
  refine lv_icmp_eq (tgt := 2010) hx hb dL_law_2005 (by decide) (fun _ => ?_) (fun c => absurd (by decide) c)
  refine lv_iload hx hb dL_law_2010 (lv_at hl 1 rfl) ?_
  refine lv_if_ne (tgt := 2027) hx hb dL_law_2012 (by decide) (fun _ => ?_) (fun c => absurd (by decide) c)
  refine lv_goto (tgt := 2818) hx hb dL_law_2027 (by decide) ?_
  refine lv_iinc (v := 7) (lv' := [(4, .int 7), (6, .int 0), (5, .int 1), (3, .ref q87), (2, .ref q64), (1, .ref q1), (0, .ref b)]) hx hb dL_law_2818 hl (k := 2) rfl (by decide) (by decide) rfl (fun ls hl => ?_)
  refine lv_goto (tgt := 23) hx hb dL_law_2821 (by decide) ?_
  refine lv_iload hx hb dL_law_23 (lv_at hl 0 rfl) ?_
  refine lv_aload_n hx hb dL_law_25 rfl (lv_at hl 6 rfl) ?_
  refine va_slen hx hb hX hbl hbA hS dL_law_26 ?_
  refine lv_topC (y := 7) rfl ?_
  refine lv_bipush (v := 7) hx hb dL_law_27 (by decide) ?_
  refine lv_isub hx hb dL_law_29 ?_
  refine lv_topC (y := 0) (by decide) ?_
  refine lv_icmp_gt (tgt := 2824) hx hb dL_law_30 (by decide) (fun _ => ?_) (fun c => absurd (by decide) c)
  refine lv_iconst (v := 1) hx hb dL_law_2824 (by decide) ?_
  refine va_forget (fun q hq => hA2 _ (hS.2.2 q hq)) ?_
  refine W.widen (k := 600002) (n := 7302232) (Nat.le_of_ble_eq_true rfl) (Nat.le_of_ble_eq_true rfl) ?_
  exact lw_ret (d0 := s.drawn) (Drawn.sameBut.refl s.drawn lw_cs) hx hb hr hlocks dL_law_2825
set_option maxHeartbeats 4000000 in
set_option maxRecDepth 100000 in
theorem law_33 {zs : Nat × Nat} {p : Program} {e : Env} {s : State} {m : MethodId} {below : List Frame} {meth : Method} {c : Code} {l : Launch} {b : Nat} {xs : Nat → Int32} {dC : Nat → ClassId} {dI : Nat → Nat → Nat} {A : Nat → Prop} (C0 : lw_At p s m meth c b 7 xs) (hl9 : l.stackTraces = false) (hA : ∀ q, s.heap.size ≤ q → A q) (hA2 : ∀ q, A q → s.heap.size ≤ q) (hE : ENV zs A s s.heap) {H : Heap} {locs : List Loc} (q1 : Nat) (q2 : Nat) (q5 : Nat) (q14 : Nat) (q15 : Nat) (q16 : Nat) (q17 : Nat) (q29 : Nat) (q30 : Nat) (q31 : Nat) (q32 : Nat) (q33 : Nat) (q34 : Nat) (q35 : Nat) (q36 : Nat) (q37 : Nat) (q38 : Nat) (q39 : Nat) (q40 : Nat) (q51 : Nat) (q63 : Nat) (q64 : Nat) (q65 : Nat) (q67 : Nat) (q68 : Nat) (c69 : ClassId) (q70 : Nat) (q72 : Nat) (q86 : Nat) (q87 : Nat) (hP : va_P (dC, dI) cls [(q1, .inr (11, [.ref q2, .ref q5, .ref q14, .ref q15, .ref q16, .ref q17, .ref q51, .ref q63, .ref q29, .ref q40, .int (-1)])), (q29, .inr (2, [.int 0, .ref q30, .ref q31, .ref q32, .ref q33, .ref q34, .ref q35, .int 0, .ref q36, .ref q37, .ref q38, .int 0, .ref q39])), (q64, .inr (15, [.ref q65, .int 0, .int (-1), .int 0, .ref q67, .ref q68, .ref q70, .ref q72, .ref q86])), (q68, .inl (c69, 0, .inr (.inr (.inr (.inr (fun _ => none))))))] H) (hD : va_D A [(q1, .inr (11, [.ref q2, .ref q5, .ref q14, .ref q15, .ref q16, .ref q17, .ref q51, .ref q63, .ref q29, .ref q40, .int (-1)])), (q29, .inr (2, [.int 0, .ref q30, .ref q31, .ref q32, .ref q33, .ref q34, .ref q35, .int 0, .ref q36, .ref q37, .ref q38, .int 0, .ref q39])), (q64, .inr (15, [.ref q65, .int 0, .int (-1), .int 0, .ref q67, .ref q68, .ref q70, .ref q72, .ref q86])), (q68, .inl (c69, 0, .inr (.inr (.inr (.inr (fun _ => none))))))]) (hK : va_K (dC, dI) cls [(c69, .object RX14)] s) (hS : va_S A s.heap H locs) {ls : Array Slot} (hl : lv_has ls 9 [(4, .int 0), (3, .ref q87), (2, .ref q64), (1, .ref q1), (0, .ref b)])  : W p l e room_1 s m #[Value.ref b] below meth c H locs 369 122514 (lw_Z below #[Value.ref b] s) (F0 m 2030 ls []) := by
  obtain ⟨hx, hb, hr, hml, hown, hts0, hX, hbl, hlocks, hgv⟩ := id C0
  have hts : ∀ w ∈ gw, w.before #[Value.ref b] s = true := fun w h => hts0 w (gw_tbl h)
  have hbA : ¬ A b := fun h => absurd (hA2 b h) (Nat.not_le.mpr hbl)
  refine lv_aload_n hx hb dL_law_2030 rfl (lv_at hl 3 rfl) ?_
  refine lv_aload_n hx hb dL_law_2031 rfl (lv_at hl 4 rfl) ?_
  refine lv_iload hx hb dL_law_2032 (lv_at hl 0 rfl) ?_
  refine lv_iconst (v := 1) hx hb dL_law_2034 (by decide) ?_
  refine lv_iadd hx hb dL_law_2035 ?_
  refine lv_topC (y := 1) (by decide) ?_
  refine va_sld hx hb hX hbl hbA hS (by unfold vp_in; decide +kernel) dL_law_2036 ?_
  refine lv_topC (y := xs 1) rfl ?_
  refine lv_aload_n hx hb dL_law_2037 rfl (lv_at hl 4 rfl) ?_
  refine lv_iload hx hb dL_law_2038 (lv_at hl 0 rfl) ?_
  refine lv_iconst (v := 2) hx hb dL_law_2040 (by decide) ?_
  refine lv_iadd hx hb dL_law_2041 ?_
  refine lv_topC (y := 2) (by decide) ?_
  refine va_sld hx hb hX hbl hbA hS (by unfold vp_in; decide +kernel) dL_law_2042 ?_
  refine lv_topC (y := xs 2) rfl ?_
  refine lv_aload_n hx hb dL_law_2043 rfl (lv_at hl 1 rfl) ?_
  have hPc := hP.sub (ws' := [(q1, .inr (11, [.ref q2, .ref q5, .ref q14, .ref q15, .ref q16, .ref q17, .ref q51, .ref q63, .ref q29, .ref q40, .int (-1)])), (q29, .inr (2, [.int 0, .ref q30, .ref q31, .ref q32, .ref q33, .ref q34, .ref q35, .int 0, .ref q36, .ref q37, .ref q38, .int 0, .ref q39]))]) [0, 1] rfl
  have hDc := hD.sub (ws' := [(q1, .inr (11, [.ref q2, .ref q5, .ref q14, .ref q15, .ref q16, .ref q17, .ref q51, .ref q63, .ref q29, .ref q40, .int (-1)])), (q29, .inr (2, [.int 0, .ref q30, .ref q31, .ref q32, .ref q33, .ref q34, .ref q35, .int 0, .ref q36, .ref q37, .ref q38, .int 0, .ref q39]))]) [0, 1] (by decide) rfl
  have hKc := hK.sub (tys' := []) [] rfl
  have hFc := va_free (wc := [(q1, .inr (11, [.ref q2, .ref q5, .ref q14, .ref q15, .ref q16, .ref q17, .ref q51, .ref q63, .ref q29, .ref q40, .int (-1)])), (q29, .inr (2, [.int 0, .ref q30, .ref q31, .ref q32, .ref q33, .ref q34, .ref q35, .int 0, .ref q36, .ref q37, .ref q38, .int 0, .ref q39]))]) hD hS hA [0, 1] rfl
  refine va_calli (vx_runSW (As := [.ref q1, .int (xs 1), .int (xs 2), .ref q87]) (rest := []) ⟨hx, hb, hml, hown, hts⟩ (kL_codeKind l dC dI (gx := q1) (gq1 := q2) (gq4 := q5) (gq13 := q14) (gq136 := q15) (gq137 := q16) (gq138 := q17) (gq150 := q29) (gq151 := q30) (gq152 := q31) (gq153 := q32) (gq154 := q33) (gq155 := q34) (gq156 := q35) (gq157 := q36) (gq158 := q37) (gq159 := q38) (gq160 := q39) (gq161 := q40) (gq172 := q51) (gq184 := q63) (go := q87) (p0 := (xs 1)) (p1 := (xs 2)) (sz := _) (hl9 := hl9)) (vx_cwSW 4 hts (gi_S qw818 qw819 qw597 (gi_h qw817)) rfl rfl rfl (by decide +kernel) ⟨Nat.le_of_ble_eq_true rfl, Nat.le_of_ble_eq_true rfl⟩) ⟨PRE.blind, PRE.of hE hS hFc hPc hKc hDc⟩ rfl rfl hl.1 rfl (lv_room (Nat.le_of_ble_eq_true rfl)) dL_law_2044 ⟨Nat.le_of_ble_eq_true rfl, Nat.le_of_ble_eq_true rfl⟩) hS (fun q _ h => hFc q h) hFc (fun r90 u t H locs ht hvm hw hB hz1 hk1 hS => ?_)
  obtain ⟨hP, hD, hK⟩ := JOIN (wr := [(q64, .inr (15, [.ref q65, .int 0, .int (-1), .int 0, .ref q67, .ref q68, .ref q70, .ref q72, .ref q86])), (q68, .inl (c69, 0, .inr (.inr (.inr (.inr (fun _ => none))))))]) hP hD hK [0, 1] [2, 3] [0] rfl rfl (by decide) (by decide) rfl hk1 hFc ht hvm hB
  have hP : va_P (dC, dI) cls [(q64, .inr (15, [.ref q65, .int 0, .int (-1), .int 0, .ref q67, .ref q68, .ref q70, .ref q72, .ref q86])), (q68, .inl (c69, 0, .inr (.inr (.inr (.inr (fun _ => none))))))] H := hP
  have hD : va_D A [(q64, .inr (15, [.ref q65, .int 0, .int (-1), .int 0, .ref q67, .ref q68, .ref q70, .ref q72, .ref q86])), (q68, .inl (c69, 0, .inr (.inr (.inr (.inr (fun _ => none))))))] := hD
  have hK : va_K (dC, dI) cls [(c69, .object RX14)] s := hK
  refine W.widen (k := 370) (n := 122520) (Nat.le_of_ble_eq_true rfl) (Nat.le_of_ble_eq_true rfl) ?_
  obtain rfl : r90 = 1 := hw
  refine lv_istore (lv' := [(5, .int 1), (4, .int 0), (3, .ref q87), (2, .ref q64), (1, .ref q1), (0, .ref b)]) hx hb dL_law_2047 hl (by decide) rfl (fun ls hl => ?_)
  refine lv_aload_n hx hb dL_law_2049 rfl (lv_at hl 3 rfl) ?_
  refine lv_aload_n hx hb dL_law_2050 rfl (lv_at hl 5 rfl) ?_
  refine lv_iload hx hb dL_law_2051 (lv_at hl 1 rfl) ?_
  refine lv_iconst (v := 1) hx hb dL_law_2053 (by decide) ?_
  refine lv_iadd hx hb dL_law_2054 ?_
  refine lv_topC (y := 1) (by decide) ?_
  refine va_sld hx hb hX hbl hbA hS (by unfold vp_in; decide +kernel) dL_law_2055 ?_
  refine lv_topC (y := xs 1) rfl ?_
  refine lv_aload_n hx hb dL_law_2056 rfl (lv_at hl 5 rfl) ?_
  refine lv_iload hx hb dL_law_2057 (lv_at hl 1 rfl) ?_
  refine lv_iconst (v := 2) hx hb dL_law_2059 (by decide) ?_
  refine lv_iadd hx hb dL_law_2060 ?_
  refine lv_topC (y := 2) (by decide) ?_
  refine va_sld hx hb hX hbl hbA hS (by unfold vp_in; decide +kernel) dL_law_2061 ?_
  refine lv_topC (y := xs 2) rfl ?_
  have hPc := hP.sub (ws' := [(q64, .inr (15, [.ref q65, .int 0, .int (-1), .int 0, .ref q67, .ref q68, .ref q70, .ref q72, .ref q86])), (q68, .inl (c69, 0, .inr (.inr (.inr (.inr (fun _ => none))))))]) [0, 1] rfl
  have hDc := hD.sub (ws' := [(q64, .inr (15, [.ref q65, .int 0, .int (-1), .int 0, .ref q67, .ref q68, .ref q70, .ref q72, .ref q86])), (q68, .inl (c69, 0, .inr (.inr (.inr (.inr (fun _ => none))))))]) [0, 1] (by decide) rfl
  have hKc := hK.sub (tys' := [(c69, .object RX14)]) [0] rfl
  have hFc := va_free (wc := [(q64, .inr (15, [.ref q65, .int 0, .int (-1), .int 0, .ref q67, .ref q68, .ref q70, .ref q72, .ref q86])), (q68, .inl (c69, 0, .inr (.inr (.inr (.inr (fun _ => none))))))]) hD hS hA [0, 1] rfl
  refine va_calli (va_runV (As := [.int (xs 1), .int (xs 2)]) (rest := []) ⟨hx, hb, hml, hown, hts⟩ (kX24_codeKind l dC dI (mx := q64) (mq1 := q65) (mq3 := q67) (mq4 := q68) (mc5 := c69) (mq6 := q70) (mq8 := q72) (mq22 := q86) (p0 := (xs 1)) (p1 := (xs 2)) (sz := _)) (cwV 2 hts (gi_V qw821 qw822 qw823 qw406 (gi_z qw820)) rfl rfl rfl (by decide +kernel) ⟨Nat.le_of_ble_eq_true rfl, Nat.le_of_ble_eq_true rfl⟩) ⟨PRE.blind, va_recv hKc hPc (ci := 15) (q0 := 0) rfl rfl, PRE.of hE hS hFc hPc hKc hDc⟩ rfl rfl hl.1 rfl (lv_room (Nat.le_of_ble_eq_true rfl)) dL_law_2062 ⟨Nat.le_of_ble_eq_true rfl, Nat.le_of_ble_eq_true rfl⟩) hS (fun q _ h => hFc q h) hFc (fun r91 u t H locs ht hvm hw hB hz1 hk1 hS => ?_)
  obtain ⟨hP, hD, hK⟩ := JOIN (wr := []) hP hD hK [0, 1] [] [] rfl rfl (by decide) (by decide) rfl hk1 hFc ht hvm hB
  have hP : va_P (dC, dI) cls [(q64, .inr (15, [.ref q65, .int 0, .int (-1), .int 1, .ref q67, .ref q68, .ref q70, .ref q72, .ref q86]))] H := hP
  have hD : va_D A [(q64, .inr (15, [.ref q65, .int 0, .int (-1), .int 1, .ref q67, .ref q68, .ref q70, .ref q72, .ref q86]))] := hD
  have hK : va_K (dC, dI) cls [] s := hK
  refine W.widen (k := 370) (n := 122520) (Nat.le_of_ble_eq_true rfl) (Nat.le_of_ble_eq_true rfl) ?_
  obtain rfl : r91 = 0 := hw
  refine lv_istore (lv' := [(6, .int 0), (5, .int 1), (4, .int 0), (3, .ref q87), (2, .ref q64), (1, .ref q1), (0, .ref b)]) hx hb dL_law_2065 hl (by decide) rfl (fun ls hl => ?_)
  refine lv_aload_n hx hb dL_law_2067 rfl (lv_at hl 4 rfl) ?_
  have hPc := hP.sub (ws' := [(q64, .inr (15, [.ref q65, .int 0, .int (-1), .int 1, .ref q67, .ref q68, .ref q70, .ref q72, .ref q86]))]) [0] rfl
  have hDc := hD.sub (ws' := [(q64, .inr (15, [.ref q65, .int 0, .int (-1), .int 1, .ref q67, .ref q68, .ref q70, .ref q72, .ref q86]))]) [0] (by decide) rfl
  have hKc := hK.sub (tys' := []) [] rfl
  have hFc := va_free (wc := [(q64, .inr (15, [.ref q65, .int 0, .int (-1), .int 1, .ref q67, .ref q68, .ref q70, .ref q72, .ref q86]))]) hD hS hA [0] rfl
  refine va_calli (va_runV (As := []) (rest := []) ⟨hx, hb, hml, hown, hts⟩ (kX24_thrown_n52 l dC dI (a0 := q64) (a60 := q65) (a62 := q68) (a64 := q70) (a66 := q72) (a82 := q67) (a83 := q86) (sz := _)) (cwV 0 hts (gi_V qw603 qw604 qw605 qw406 (gi_z qw602)) rfl rfl rfl (by decide +kernel) ⟨Nat.le_of_ble_eq_true rfl, Nat.le_of_ble_eq_true rfl⟩) ⟨PRE.blind, va_recv hKc hPc (ci := 15) (q0 := 0) rfl rfl, PRE.of hE hS hFc hPc hKc hDc⟩ rfl rfl hl.1 rfl (lv_room (Nat.le_of_ble_eq_true rfl)) dL_law_2068 ⟨Nat.le_of_ble_eq_true rfl, Nat.le_of_ble_eq_true rfl⟩) hS (fun q _ h => hFc q h) hFc (fun r92 u t H locs ht hvm hw hB hz1 hk1 hS => ?_)
  obtain ⟨hP, hD, hK⟩ := JOIN (wr := []) hP hD hK [0] [] [] rfl rfl (by decide) (by decide) rfl hk1 hFc ht hvm hB
  have hP : va_P (dC, dI) cls [(q64, .inr (15, [.ref q65, .int 0, .int (-1), .int 1, .ref q67, .ref q68, .ref q70, .ref q72, .ref q86]))] H := hP
  have hD : va_D A [(q64, .inr (15, [.ref q65, .int 0, .int (-1), .int 1, .ref q67, .ref q68, .ref q70, .ref q72, .ref q86]))] := hD
  have hK : va_K (dC, dI) cls [] s := hK
  refine W.widen (k := 370) (n := 122520) (Nat.le_of_ble_eq_true rfl) (Nat.le_of_ble_eq_true rfl) ?_
  obtain rfl : r92 = 1 := hw
  refine lv_iload hx hb dL_law_2071 (lv_at hl 1 rfl) ?_
  refine lv_icmp_eq (tgt := 2078) hx hb dL_law_2073 (by decide) (fun _ => ?_) (fun c => absurd (by decide) c)
  refine lv_iload hx hb dL_law_2078 (lv_at hl 1 rfl) ?_
  refine lv_if_ne (tgt := 2095) hx hb dL_law_2080 (by decide) (fun _ => ?_) (fun c => absurd (by decide) c)
  refine lv_goto (tgt := 2818) hx hb dL_law_2095 (by decide) ?_
  refine lv_iinc (v := 7) (lv' := [(4, .int 7), (6, .int 0), (5, .int 1), (3, .ref q87), (2, .ref q64), (1, .ref q1), (0, .ref b)]) hx hb dL_law_2818 hl (k := 2) rfl (by decide) (by decide) rfl (fun ls hl => ?_)
  refine lv_goto (tgt := 23) hx hb dL_law_2821 (by decide) ?_
  refine lv_iload hx hb dL_law_23 (lv_at hl 0 rfl) ?_
  refine lv_aload_n hx hb dL_law_25 rfl (lv_at hl 6 rfl) ?_
  refine va_slen hx hb hX hbl hbA hS dL_law_26 ?_
  refine lv_topC (y := 7) rfl ?_
  refine lv_bipush (v := 7) hx hb dL_law_27 (by decide) ?_
  refine lv_isub hx hb dL_law_29 ?_
  refine lv_topC (y := 0) (by decide) ?_
  refine lv_icmp_gt (tgt := 2824) hx hb dL_law_30 (by decide) (fun _ => ?_) (fun c => absurd (by decide) c)
  refine lv_iconst (v := 1) hx hb dL_law_2824 (by decide) ?_
  refine va_forget (fun q hq => hA2 _ (hS.2.2 q hq)) ?_
  refine W.widen (k := 600002) (n := 7302232) (Nat.le_of_ble_eq_true rfl) (Nat.le_of_ble_eq_true rfl) ?_
  exact lw_ret (d0 := s.drawn) (Drawn.sameBut.refl s.drawn lw_cs) hx hb hr hlocks dL_law_2825
set_option maxHeartbeats 4000000 in
set_option maxRecDepth 100000 in
theorem law_34 {zs : Nat × Nat} {p : Program} {e : Env} {s : State} {m : MethodId} {below : List Frame} {meth : Method} {c : Code} {l : Launch} {b : Nat} {xs : Nat → Int32} {dC : Nat → ClassId} {dI : Nat → Nat → Nat} {A : Nat → Prop} (C0 : lw_At p s m meth c b 7 xs) (hl9 : l.stackTraces = false) (hA : ∀ q, s.heap.size ≤ q → A q) (hA2 : ∀ q, A q → s.heap.size ≤ q) (hE : ENV zs A s s.heap) {H : Heap} {locs : List Loc} (q1 : Nat) (q2 : Nat) (q5 : Nat) (q14 : Nat) (q15 : Nat) (q16 : Nat) (q17 : Nat) (q29 : Nat) (q30 : Nat) (q31 : Nat) (q32 : Nat) (q33 : Nat) (q34 : Nat) (q35 : Nat) (q36 : Nat) (q37 : Nat) (q38 : Nat) (q39 : Nat) (q40 : Nat) (q51 : Nat) (q63 : Nat) (q64 : Nat) (q65 : Nat) (q67 : Nat) (q68 : Nat) (c69 : ClassId) (q70 : Nat) (q72 : Nat) (q86 : Nat) (q87 : Nat) (hP : va_P (dC, dI) cls [(q1, .inr (11, [.ref q2, .ref q5, .ref q14, .ref q15, .ref q16, .ref q17, .ref q51, .ref q63, .ref q29, .ref q40, .int (-1)])), (q29, .inr (2, [.int 0, .ref q30, .ref q31, .ref q32, .ref q33, .ref q34, .ref q35, .int 0, .ref q36, .ref q37, .ref q38, .int 0, .ref q39])), (q64, .inr (15, [.ref q65, .int 0, .int (-1), .int 0, .ref q67, .ref q68, .ref q70, .ref q72, .ref q86])), (q68, .inl (c69, 0, .inr (.inr (.inr (.inr (fun _ => none))))))] H) (hD : va_D A [(q1, .inr (11, [.ref q2, .ref q5, .ref q14, .ref q15, .ref q16, .ref q17, .ref q51, .ref q63, .ref q29, .ref q40, .int (-1)])), (q29, .inr (2, [.int 0, .ref q30, .ref q31, .ref q32, .ref q33, .ref q34, .ref q35, .int 0, .ref q36, .ref q37, .ref q38, .int 0, .ref q39])), (q64, .inr (15, [.ref q65, .int 0, .int (-1), .int 0, .ref q67, .ref q68, .ref q70, .ref q72, .ref q86])), (q68, .inl (c69, 0, .inr (.inr (.inr (.inr (fun _ => none))))))]) (hK : va_K (dC, dI) cls [(c69, .object RX14)] s) (hS : va_S A s.heap H locs) {ls : Array Slot} (hl : lv_has ls 9 [(4, .int 0), (3, .ref q87), (2, .ref q64), (1, .ref q1), (0, .ref b)])  : W p l e room_1 s m #[Value.ref b] below meth c H locs 369 122514 (lw_Z below #[Value.ref b] s) (F0 m 2098 ls []) := by
  obtain ⟨hx, hb, hr, hml, hown, hts0, hX, hbl, hlocks, hgv⟩ := id C0
  have hts : ∀ w ∈ gw, w.before #[Value.ref b] s = true := fun w h => hts0 w (gw_tbl h)
  have hbA : ¬ A b := fun h => absurd (hA2 b h) (Nat.not_le.mpr hbl)
  refine lv_aload_n hx hb dL_law_2098 rfl (lv_at hl 3 rfl) ?_
  refine lv_aload_n hx hb dL_law_2099 rfl (lv_at hl 4 rfl) ?_
  refine lv_iload hx hb dL_law_2100 (lv_at hl 0 rfl) ?_
  refine lv_iconst (v := 1) hx hb dL_law_2102 (by decide) ?_
  refine lv_iadd hx hb dL_law_2103 ?_
  refine lv_topC (y := 1) (by decide) ?_
  refine va_sld hx hb hX hbl hbA hS (by unfold vp_in; decide +kernel) dL_law_2104 ?_
  refine lv_topC (y := xs 1) rfl ?_
  refine lv_aload_n hx hb dL_law_2105 rfl (lv_at hl 4 rfl) ?_
  refine lv_iload hx hb dL_law_2106 (lv_at hl 0 rfl) ?_
  refine lv_iconst (v := 2) hx hb dL_law_2108 (by decide) ?_
  refine lv_iadd hx hb dL_law_2109 ?_
  refine lv_topC (y := 2) (by decide) ?_
  refine va_sld hx hb hX hbl hbA hS (by unfold vp_in; decide +kernel) dL_law_2110 ?_
  refine lv_topC (y := xs 2) rfl ?_
  refine lv_aload_n hx hb dL_law_2111 rfl (lv_at hl 1 rfl) ?_
  have hPc := hP.sub (ws' := [(q1, .inr (11, [.ref q2, .ref q5, .ref q14, .ref q15, .ref q16, .ref q17, .ref q51, .ref q63, .ref q29, .ref q40, .int (-1)])), (q29, .inr (2, [.int 0, .ref q30, .ref q31, .ref q32, .ref q33, .ref q34, .ref q35, .int 0, .ref q36, .ref q37, .ref q38, .int 0, .ref q39]))]) [0, 1] rfl
  have hDc := hD.sub (ws' := [(q1, .inr (11, [.ref q2, .ref q5, .ref q14, .ref q15, .ref q16, .ref q17, .ref q51, .ref q63, .ref q29, .ref q40, .int (-1)])), (q29, .inr (2, [.int 0, .ref q30, .ref q31, .ref q32, .ref q33, .ref q34, .ref q35, .int 0, .ref q36, .ref q37, .ref q38, .int 0, .ref q39]))]) [0, 1] (by decide) rfl
  have hKc := hK.sub (tys' := []) [] rfl
  have hFc := va_free (wc := [(q1, .inr (11, [.ref q2, .ref q5, .ref q14, .ref q15, .ref q16, .ref q17, .ref q51, .ref q63, .ref q29, .ref q40, .int (-1)])), (q29, .inr (2, [.int 0, .ref q30, .ref q31, .ref q32, .ref q33, .ref q34, .ref q35, .int 0, .ref q36, .ref q37, .ref q38, .int 0, .ref q39]))]) hD hS hA [0, 1] rfl
  refine va_calli (vx_runSW (As := [.ref q1, .int (xs 1), .int (xs 2), .ref q87]) (rest := []) ⟨hx, hb, hml, hown, hts⟩ (kL_codeGives l dC dI (gx := q1) (gq1 := q2) (gq4 := q5) (gq13 := q14) (gq136 := q15) (gq137 := q16) (gq138 := q17) (gq150 := q29) (gq151 := q30) (gq152 := q31) (gq153 := q32) (gq154 := q33) (gq155 := q34) (gq156 := q35) (gq157 := q36) (gq158 := q37) (gq159 := q38) (gq160 := q39) (gq161 := q40) (gq172 := q51) (gq184 := q63) (go := q87) (p0 := (xs 1)) (p1 := (xs 2)) (sz := _) (hl9 := hl9)) (vx_cwSW 4 hts (gi_S qw825 qw826 qw597 (gi_h qw824)) rfl rfl rfl (by decide +kernel) ⟨Nat.le_of_ble_eq_true rfl, Nat.le_of_ble_eq_true rfl⟩) ⟨PRE.blind, PRE.of hE hS hFc hPc hKc hDc⟩ rfl rfl hl.1 rfl (lv_room (Nat.le_of_ble_eq_true rfl)) dL_law_2112 ⟨Nat.le_of_ble_eq_true rfl, Nat.le_of_ble_eq_true rfl⟩) hS (fun q _ h => hFc q h) hFc (fun r90 u t H locs ht hvm hw hB hz1 hk1 hS => ?_)
  obtain ⟨hP, hD, hK⟩ := JOIN (wr := [(q64, .inr (15, [.ref q65, .int 0, .int (-1), .int 0, .ref q67, .ref q68, .ref q70, .ref q72, .ref q86])), (q68, .inl (c69, 0, .inr (.inr (.inr (.inr (fun _ => none))))))]) hP hD hK [0, 1] [2, 3] [0] rfl rfl (by decide) (by decide) rfl hk1 hFc ht hvm hB
  have hP : va_P (dC, dI) cls [(q64, .inr (15, [.ref q65, .int 0, .int (-1), .int 0, .ref q67, .ref q68, .ref q70, .ref q72, .ref q86])), (q68, .inl (c69, 0, .inr (.inr (.inr (.inr (fun _ => none))))))] H := hP
  have hD : va_D A [(q64, .inr (15, [.ref q65, .int 0, .int (-1), .int 0, .ref q67, .ref q68, .ref q70, .ref q72, .ref q86])), (q68, .inl (c69, 0, .inr (.inr (.inr (.inr (fun _ => none))))))] := hD
  have hK : va_K (dC, dI) cls [(c69, .object RX14)] s := hK
  refine W.widen (k := 370) (n := 122520) (Nat.le_of_ble_eq_true rfl) (Nat.le_of_ble_eq_true rfl) ?_
  obtain rfl : r90 = 1 := hw
  refine lv_istore (lv' := [(5, .int 1), (4, .int 0), (3, .ref q87), (2, .ref q64), (1, .ref q1), (0, .ref b)]) hx hb dL_law_2115 hl (by decide) rfl (fun ls hl => ?_)
  refine lv_aload_n hx hb dL_law_2117 rfl (lv_at hl 3 rfl) ?_
  refine lv_aload_n hx hb dL_law_2118 rfl (lv_at hl 5 rfl) ?_
  refine lv_iload hx hb dL_law_2119 (lv_at hl 1 rfl) ?_
  refine lv_iconst (v := 1) hx hb dL_law_2121 (by decide) ?_
  refine lv_iadd hx hb dL_law_2122 ?_
  refine lv_topC (y := 1) (by decide) ?_
  refine va_sld hx hb hX hbl hbA hS (by unfold vp_in; decide +kernel) dL_law_2123 ?_
  refine lv_topC (y := xs 1) rfl ?_
  refine lv_aload_n hx hb dL_law_2124 rfl (lv_at hl 5 rfl) ?_
  refine lv_iload hx hb dL_law_2125 (lv_at hl 1 rfl) ?_
  refine lv_iconst (v := 2) hx hb dL_law_2127 (by decide) ?_
  refine lv_iadd hx hb dL_law_2128 ?_
  refine lv_topC (y := 2) (by decide) ?_
  refine va_sld hx hb hX hbl hbA hS (by unfold vp_in; decide +kernel) dL_law_2129 ?_
  refine lv_topC (y := xs 2) rfl ?_
  have hPc := hP.sub (ws' := [(q64, .inr (15, [.ref q65, .int 0, .int (-1), .int 0, .ref q67, .ref q68, .ref q70, .ref q72, .ref q86])), (q68, .inl (c69, 0, .inr (.inr (.inr (.inr (fun _ => none))))))]) [0, 1] rfl
  have hDc := hD.sub (ws' := [(q64, .inr (15, [.ref q65, .int 0, .int (-1), .int 0, .ref q67, .ref q68, .ref q70, .ref q72, .ref q86])), (q68, .inl (c69, 0, .inr (.inr (.inr (.inr (fun _ => none))))))]) [0, 1] (by decide) rfl
  have hKc := hK.sub (tys' := [(c69, .object RX14)]) [0] rfl
  have hFc := va_free (wc := [(q64, .inr (15, [.ref q65, .int 0, .int (-1), .int 0, .ref q67, .ref q68, .ref q70, .ref q72, .ref q86])), (q68, .inl (c69, 0, .inr (.inr (.inr (.inr (fun _ => none))))))]) hD hS hA [0, 1] rfl
  refine va_calli (va_runV (As := [.int (xs 1), .int (xs 2)]) (rest := []) ⟨hx, hb, hml, hown, hts⟩ (kX24_codeGives l dC dI (mx := q64) (mq1 := q65) (mq3 := q67) (mq4 := q68) (mc5 := c69) (mq6 := q70) (mq8 := q72) (mq22 := q86) (p0 := (xs 1)) (p1 := (xs 2)) (sz := _)) (cwV 2 hts (gi_V qw828 qw829 qw830 qw406 (gi_z qw827)) rfl rfl rfl (by decide +kernel) ⟨Nat.le_of_ble_eq_true rfl, Nat.le_of_ble_eq_true rfl⟩) ⟨PRE.blind, va_recv hKc hPc (ci := 15) (q0 := 0) rfl rfl, PRE.of hE hS hFc hPc hKc hDc⟩ rfl rfl hl.1 rfl (lv_room (Nat.le_of_ble_eq_true rfl)) dL_law_2130 ⟨Nat.le_of_ble_eq_true rfl, Nat.le_of_ble_eq_true rfl⟩) hS (fun q _ h => hFc q h) hFc (fun r91 u t H locs ht hvm hw hB hz1 hk1 hS => ?_)
  obtain ⟨hP, hD, hK⟩ := JOIN (wr := []) hP hD hK [0, 1] [] [] rfl rfl (by decide) (by decide) rfl hk1 hFc ht hvm hB
  have hP : va_P (dC, dI) cls [(q64, .inr (15, [.ref q65, .int 0, .int (-1), .int 1, .ref q67, .ref q68, .ref q70, .ref q72, .ref q86]))] H := hP
  have hD : va_D A [(q64, .inr (15, [.ref q65, .int 0, .int (-1), .int 1, .ref q67, .ref q68, .ref q70, .ref q72, .ref q86]))] := hD
  have hK : va_K (dC, dI) cls [] s := hK
  refine W.widen (k := 370) (n := 122520) (Nat.le_of_ble_eq_true rfl) (Nat.le_of_ble_eq_true rfl) ?_
  obtain rfl : r91 = 0 := hw
  refine lv_istore (lv' := [(6, .int 0), (5, .int 1), (4, .int 0), (3, .ref q87), (2, .ref q64), (1, .ref q1), (0, .ref b)]) hx hb dL_law_2133 hl (by decide) rfl (fun ls hl => ?_)
  refine lv_aload_n hx hb dL_law_2135 rfl (lv_at hl 4 rfl) ?_
  have hPc := hP.sub (ws' := [(q64, .inr (15, [.ref q65, .int 0, .int (-1), .int 1, .ref q67, .ref q68, .ref q70, .ref q72, .ref q86]))]) [0] rfl
  have hDc := hD.sub (ws' := [(q64, .inr (15, [.ref q65, .int 0, .int (-1), .int 1, .ref q67, .ref q68, .ref q70, .ref q72, .ref q86]))]) [0] (by decide) rfl
  have hKc := hK.sub (tys' := []) [] rfl
  have hFc := va_free (wc := [(q64, .inr (15, [.ref q65, .int 0, .int (-1), .int 1, .ref q67, .ref q68, .ref q70, .ref q72, .ref q86]))]) hD hS hA [0] rfl
  refine va_calli (va_runV (As := []) (rest := []) ⟨hx, hb, hml, hown, hts⟩ (kX24_thrown_n52 l dC dI (a0 := q64) (a60 := q65) (a62 := q68) (a64 := q70) (a66 := q72) (a82 := q67) (a83 := q86) (sz := _)) (cwV 0 hts (gi_V qw603 qw604 qw605 qw406 (gi_z qw602)) rfl rfl rfl (by decide +kernel) ⟨Nat.le_of_ble_eq_true rfl, Nat.le_of_ble_eq_true rfl⟩) ⟨PRE.blind, va_recv hKc hPc (ci := 15) (q0 := 0) rfl rfl, PRE.of hE hS hFc hPc hKc hDc⟩ rfl rfl hl.1 rfl (lv_room (Nat.le_of_ble_eq_true rfl)) dL_law_2136 ⟨Nat.le_of_ble_eq_true rfl, Nat.le_of_ble_eq_true rfl⟩) hS (fun q _ h => hFc q h) hFc (fun r92 u t H locs ht hvm hw hB hz1 hk1 hS => ?_)
  obtain ⟨hP, hD, hK⟩ := JOIN (wr := []) hP hD hK [0] [] [] rfl rfl (by decide) (by decide) rfl hk1 hFc ht hvm hB
  have hP : va_P (dC, dI) cls [(q64, .inr (15, [.ref q65, .int 0, .int (-1), .int 1, .ref q67, .ref q68, .ref q70, .ref q72, .ref q86]))] H := hP
  have hD : va_D A [(q64, .inr (15, [.ref q65, .int 0, .int (-1), .int 1, .ref q67, .ref q68, .ref q70, .ref q72, .ref q86]))] := hD
  have hK : va_K (dC, dI) cls [] s := hK
  refine W.widen (k := 370) (n := 122520) (Nat.le_of_ble_eq_true rfl) (Nat.le_of_ble_eq_true rfl) ?_
  obtain rfl : r92 = 1 := hw
  refine lv_iload hx hb dL_law_2139 (lv_at hl 1 rfl) ?_
  refine lv_icmp_eq (tgt := 2146) hx hb dL_law_2141 (by decide) (fun _ => ?_) (fun c => absurd (by decide) c)
  refine lv_iload hx hb dL_law_2146 (lv_at hl 1 rfl) ?_
  refine lv_if_ne (tgt := 2163) hx hb dL_law_2148 (by decide) (fun _ => ?_) (fun c => absurd (by decide) c)
  refine lv_goto (tgt := 2818) hx hb dL_law_2163 (by decide) ?_
  refine lv_iinc (v := 7) (lv' := [(4, .int 7), (6, .int 0), (5, .int 1), (3, .ref q87), (2, .ref q64), (1, .ref q1), (0, .ref b)]) hx hb dL_law_2818 hl (k := 2) rfl (by decide) (by decide) rfl (fun ls hl => ?_)
  refine lv_goto (tgt := 23) hx hb dL_law_2821 (by decide) ?_
  refine lv_iload hx hb dL_law_23 (lv_at hl 0 rfl) ?_
  refine lv_aload_n hx hb dL_law_25 rfl (lv_at hl 6 rfl) ?_
  refine va_slen hx hb hX hbl hbA hS dL_law_26 ?_
  refine lv_topC (y := 7) rfl ?_
  refine lv_bipush (v := 7) hx hb dL_law_27 (by decide) ?_
  refine lv_isub hx hb dL_law_29 ?_
  refine lv_topC (y := 0) (by decide) ?_
  refine lv_icmp_gt (tgt := 2824) hx hb dL_law_30 (by decide) (fun _ => ?_) (fun c => absurd (by decide) c)
  refine lv_iconst (v := 1) hx hb dL_law_2824 (by decide) ?_
  refine va_forget (fun q hq => hA2 _ (hS.2.2 q hq)) ?_
  refine W.widen (k := 600002) (n := 7302232) (Nat.le_of_ble_eq_true rfl) (Nat.le_of_ble_eq_true rfl) ?_
  exact lw_ret (d0 := s.drawn) (Drawn.sameBut.refl s.drawn lw_cs) hx hb hr hlocks dL_law_2825
set_option maxHeartbeats 4000000 in
set_option maxRecDepth 100000 in
theorem law_35 {zs : Nat × Nat} {p : Program} {e : Env} {s : State} {m : MethodId} {below : List Frame} {meth : Method} {c : Code} {l : Launch} {b : Nat} {xs : Nat → Int32} {dC : Nat → ClassId} {dI : Nat → Nat → Nat} {A : Nat → Prop} (C0 : lw_At p s m meth c b 7 xs) (hl9 : l.stackTraces = false) (hA : ∀ q, s.heap.size ≤ q → A q) (hA2 : ∀ q, A q → s.heap.size ≤ q) (hE : ENV zs A s s.heap) {H : Heap} {locs : List Loc} (q1 : Nat) (q2 : Nat) (q5 : Nat) (q14 : Nat) (q15 : Nat) (q16 : Nat) (q17 : Nat) (q29 : Nat) (q30 : Nat) (q31 : Nat) (q32 : Nat) (q33 : Nat) (q34 : Nat) (q35 : Nat) (q36 : Nat) (q37 : Nat) (q38 : Nat) (q39 : Nat) (q40 : Nat) (q51 : Nat) (q63 : Nat) (q64 : Nat) (q65 : Nat) (q67 : Nat) (q68 : Nat) (c69 : ClassId) (q70 : Nat) (q72 : Nat) (q86 : Nat) (q87 : Nat) (hP : va_P (dC, dI) cls [(q1, .inr (11, [.ref q2, .ref q5, .ref q14, .ref q15, .ref q16, .ref q17, .ref q51, .ref q63, .ref q29, .ref q40, .int (-1)])), (q29, .inr (2, [.int 0, .ref q30, .ref q31, .ref q32, .ref q33, .ref q34, .ref q35, .int 0, .ref q36, .ref q37, .ref q38, .int 0, .ref q39])), (q64, .inr (15, [.ref q65, .int 0, .int (-1), .int 0, .ref q67, .ref q68, .ref q70, .ref q72, .ref q86])), (q68, .inl (c69, 0, .inr (.inr (.inr (.inr (fun _ => none))))))] H) (hD : va_D A [(q1, .inr (11, [.ref q2, .ref q5, .ref q14, .ref q15, .ref q16, .ref q17, .ref q51, .ref q63, .ref q29, .ref q40, .int (-1)])), (q29, .inr (2, [.int 0, .ref q30, .ref q31, .ref q32, .ref q33, .ref q34, .ref q35, .int 0, .ref q36, .ref q37, .ref q38, .int 0, .ref q39])), (q64, .inr (15, [.ref q65, .int 0, .int (-1), .int 0, .ref q67, .ref q68, .ref q70, .ref q72, .ref q86])), (q68, .inl (c69, 0, .inr (.inr (.inr (.inr (fun _ => none))))))]) (hK : va_K (dC, dI) cls [(c69, .object RX14)] s) (hS : va_S A s.heap H locs) {ls : Array Slot} (hl : lv_has ls 9 [(4, .int 0), (3, .ref q87), (2, .ref q64), (1, .ref q1), (0, .ref b)])  : W p l e room_1 s m #[Value.ref b] below meth c H locs 369 122514 (lw_Z below #[Value.ref b] s) (F0 m 2166 ls []) := by
  obtain ⟨hx, hb, hr, hml, hown, hts0, hX, hbl, hlocks, hgv⟩ := id C0
  have hts : ∀ w ∈ gw, w.before #[Value.ref b] s = true := fun w h => hts0 w (gw_tbl h)
  have hbA : ¬ A b := fun h => absurd (hA2 b h) (Nat.not_le.mpr hbl)
  refine lv_aload_n hx hb dL_law_2166 rfl (lv_at hl 3 rfl) ?_
  refine lv_aload_n hx hb dL_law_2167 rfl (lv_at hl 4 rfl) ?_
  refine lv_iload hx hb dL_law_2168 (lv_at hl 0 rfl) ?_
  refine lv_iconst (v := 1) hx hb dL_law_2170 (by decide) ?_
  refine lv_iadd hx hb dL_law_2171 ?_
  refine lv_topC (y := 1) (by decide) ?_
  refine va_sld hx hb hX hbl hbA hS (by unfold vp_in; decide +kernel) dL_law_2172 ?_
  refine lv_topC (y := xs 1) rfl ?_
  refine lv_aload_n hx hb dL_law_2173 rfl (lv_at hl 4 rfl) ?_
  refine lv_iload hx hb dL_law_2174 (lv_at hl 0 rfl) ?_
  refine lv_iconst (v := 2) hx hb dL_law_2176 (by decide) ?_
  refine lv_iadd hx hb dL_law_2177 ?_
  refine lv_topC (y := 2) (by decide) ?_
  refine va_sld hx hb hX hbl hbA hS (by unfold vp_in; decide +kernel) dL_law_2178 ?_
  refine lv_topC (y := xs 2) rfl ?_
  refine lv_aload_n hx hb dL_law_2179 rfl (lv_at hl 1 rfl) ?_
  have hPc := hP.sub (ws' := [(q1, .inr (11, [.ref q2, .ref q5, .ref q14, .ref q15, .ref q16, .ref q17, .ref q51, .ref q63, .ref q29, .ref q40, .int (-1)])), (q29, .inr (2, [.int 0, .ref q30, .ref q31, .ref q32, .ref q33, .ref q34, .ref q35, .int 0, .ref q36, .ref q37, .ref q38, .int 0, .ref q39]))]) [0, 1] rfl
  have hDc := hD.sub (ws' := [(q1, .inr (11, [.ref q2, .ref q5, .ref q14, .ref q15, .ref q16, .ref q17, .ref q51, .ref q63, .ref q29, .ref q40, .int (-1)])), (q29, .inr (2, [.int 0, .ref q30, .ref q31, .ref q32, .ref q33, .ref q34, .ref q35, .int 0, .ref q36, .ref q37, .ref q38, .int 0, .ref q39]))]) [0, 1] (by decide) rfl
  have hKc := hK.sub (tys' := []) [] rfl
  have hFc := va_free (wc := [(q1, .inr (11, [.ref q2, .ref q5, .ref q14, .ref q15, .ref q16, .ref q17, .ref q51, .ref q63, .ref q29, .ref q40, .int (-1)])), (q29, .inr (2, [.int 0, .ref q30, .ref q31, .ref q32, .ref q33, .ref q34, .ref q35, .int 0, .ref q36, .ref q37, .ref q38, .int 0, .ref q39]))]) hD hS hA [0, 1] rfl
  refine va_calli (vx_runSW (As := [.ref q1, .int (xs 1), .int (xs 2), .ref q87]) (rest := []) ⟨hx, hb, hml, hown, hts⟩ (kL_codeLeft l dC dI (gx := q1) (gq1 := q2) (gq4 := q5) (gq13 := q14) (gq136 := q15) (gq137 := q16) (gq138 := q17) (gq150 := q29) (gq151 := q30) (gq152 := q31) (gq153 := q32) (gq154 := q33) (gq155 := q34) (gq156 := q35) (gq157 := q36) (gq158 := q37) (gq159 := q38) (gq160 := q39) (gq161 := q40) (gq172 := q51) (gq184 := q63) (go := q87) (p0 := (xs 1)) (p1 := (xs 2)) (sz := _) (hl9 := hl9)) (vx_cwSW 4 hts (gi_S qw832 qw833 qw597 (gi_h qw831)) rfl rfl rfl (by decide +kernel) ⟨Nat.le_of_ble_eq_true rfl, Nat.le_of_ble_eq_true rfl⟩) ⟨PRE.blind, PRE.of hE hS hFc hPc hKc hDc⟩ rfl rfl hl.1 rfl (lv_room (Nat.le_of_ble_eq_true rfl)) dL_law_2180 ⟨Nat.le_of_ble_eq_true rfl, Nat.le_of_ble_eq_true rfl⟩) hS (fun q _ h => hFc q h) hFc (fun r90 u t H locs ht hvm hw hB hz1 hk1 hS => ?_)
  obtain ⟨hP, hD, hK⟩ := JOIN (wr := [(q64, .inr (15, [.ref q65, .int 0, .int (-1), .int 0, .ref q67, .ref q68, .ref q70, .ref q72, .ref q86])), (q68, .inl (c69, 0, .inr (.inr (.inr (.inr (fun _ => none))))))]) hP hD hK [0, 1] [2, 3] [0] rfl rfl (by decide) (by decide) rfl hk1 hFc ht hvm hB
  have hP : va_P (dC, dI) cls [(q64, .inr (15, [.ref q65, .int 0, .int (-1), .int 0, .ref q67, .ref q68, .ref q70, .ref q72, .ref q86])), (q68, .inl (c69, 0, .inr (.inr (.inr (.inr (fun _ => none))))))] H := hP
  have hD : va_D A [(q64, .inr (15, [.ref q65, .int 0, .int (-1), .int 0, .ref q67, .ref q68, .ref q70, .ref q72, .ref q86])), (q68, .inl (c69, 0, .inr (.inr (.inr (.inr (fun _ => none))))))] := hD
  have hK : va_K (dC, dI) cls [(c69, .object RX14)] s := hK
  refine W.widen (k := 370) (n := 122520) (Nat.le_of_ble_eq_true rfl) (Nat.le_of_ble_eq_true rfl) ?_
  obtain rfl : r90 = 1 := hw
  refine lv_istore (lv' := [(5, .int 1), (4, .int 0), (3, .ref q87), (2, .ref q64), (1, .ref q1), (0, .ref b)]) hx hb dL_law_2183 hl (by decide) rfl (fun ls hl => ?_)
  refine lv_aload_n hx hb dL_law_2185 rfl (lv_at hl 3 rfl) ?_
  refine lv_aload_n hx hb dL_law_2186 rfl (lv_at hl 5 rfl) ?_
  refine lv_iload hx hb dL_law_2187 (lv_at hl 1 rfl) ?_
  refine lv_iconst (v := 1) hx hb dL_law_2189 (by decide) ?_
  refine lv_iadd hx hb dL_law_2190 ?_
  refine lv_topC (y := 1) (by decide) ?_
  refine va_sld hx hb hX hbl hbA hS (by unfold vp_in; decide +kernel) dL_law_2191 ?_
  refine lv_topC (y := xs 1) rfl ?_
  refine lv_aload_n hx hb dL_law_2192 rfl (lv_at hl 5 rfl) ?_
  refine lv_iload hx hb dL_law_2193 (lv_at hl 1 rfl) ?_
  refine lv_iconst (v := 2) hx hb dL_law_2195 (by decide) ?_
  refine lv_iadd hx hb dL_law_2196 ?_
  refine lv_topC (y := 2) (by decide) ?_
  refine va_sld hx hb hX hbl hbA hS (by unfold vp_in; decide +kernel) dL_law_2197 ?_
  refine lv_topC (y := xs 2) rfl ?_
  have hPc := hP.sub (ws' := [(q64, .inr (15, [.ref q65, .int 0, .int (-1), .int 0, .ref q67, .ref q68, .ref q70, .ref q72, .ref q86])), (q68, .inl (c69, 0, .inr (.inr (.inr (.inr (fun _ => none))))))]) [0, 1] rfl
  have hDc := hD.sub (ws' := [(q64, .inr (15, [.ref q65, .int 0, .int (-1), .int 0, .ref q67, .ref q68, .ref q70, .ref q72, .ref q86])), (q68, .inl (c69, 0, .inr (.inr (.inr (.inr (fun _ => none))))))]) [0, 1] (by decide) rfl
  have hKc := hK.sub (tys' := [(c69, .object RX14)]) [0] rfl
  have hFc := va_free (wc := [(q64, .inr (15, [.ref q65, .int 0, .int (-1), .int 0, .ref q67, .ref q68, .ref q70, .ref q72, .ref q86])), (q68, .inl (c69, 0, .inr (.inr (.inr (.inr (fun _ => none))))))]) hD hS hA [0, 1] rfl
  refine va_calli (va_runV (As := [.int (xs 1), .int (xs 2)]) (rest := []) ⟨hx, hb, hml, hown, hts⟩ (kX24_codeLeft l dC dI (mx := q64) (mq1 := q65) (mq3 := q67) (mq4 := q68) (mc5 := c69) (mq6 := q70) (mq8 := q72) (mq22 := q86) (p0 := (xs 1)) (p1 := (xs 2)) (sz := _)) (cwV 2 hts (gi_V qw835 qw836 qw837 qw406 (gi_z qw834)) rfl rfl rfl (by decide +kernel) ⟨Nat.le_of_ble_eq_true rfl, Nat.le_of_ble_eq_true rfl⟩) ⟨PRE.blind, va_recv hKc hPc (ci := 15) (q0 := 0) rfl rfl, PRE.of hE hS hFc hPc hKc hDc⟩ rfl rfl hl.1 rfl (lv_room (Nat.le_of_ble_eq_true rfl)) dL_law_2198 ⟨Nat.le_of_ble_eq_true rfl, Nat.le_of_ble_eq_true rfl⟩) hS (fun q _ h => hFc q h) hFc (fun r91 u t H locs ht hvm hw hB hz1 hk1 hS => ?_)
  obtain ⟨hP, hD, hK⟩ := JOIN (wr := []) hP hD hK [0, 1] [] [] rfl rfl (by decide) (by decide) rfl hk1 hFc ht hvm hB
  have hP : va_P (dC, dI) cls [(q64, .inr (15, [.ref q65, .int 0, .int (-1), .int 1, .ref q67, .ref q68, .ref q70, .ref q72, .ref q86]))] H := hP
  have hD : va_D A [(q64, .inr (15, [.ref q65, .int 0, .int (-1), .int 1, .ref q67, .ref q68, .ref q70, .ref q72, .ref q86]))] := hD
  have hK : va_K (dC, dI) cls [] s := hK
  refine W.widen (k := 370) (n := 122520) (Nat.le_of_ble_eq_true rfl) (Nat.le_of_ble_eq_true rfl) ?_
  obtain rfl : r91 = 0 := hw
  refine lv_istore (lv' := [(6, .int 0), (5, .int 1), (4, .int 0), (3, .ref q87), (2, .ref q64), (1, .ref q1), (0, .ref b)]) hx hb dL_law_2201 hl (by decide) rfl (fun ls hl => ?_)
  refine lv_aload_n hx hb dL_law_2203 rfl (lv_at hl 4 rfl) ?_
  have hPc := hP.sub (ws' := [(q64, .inr (15, [.ref q65, .int 0, .int (-1), .int 1, .ref q67, .ref q68, .ref q70, .ref q72, .ref q86]))]) [0] rfl
  have hDc := hD.sub (ws' := [(q64, .inr (15, [.ref q65, .int 0, .int (-1), .int 1, .ref q67, .ref q68, .ref q70, .ref q72, .ref q86]))]) [0] (by decide) rfl
  have hKc := hK.sub (tys' := []) [] rfl
  have hFc := va_free (wc := [(q64, .inr (15, [.ref q65, .int 0, .int (-1), .int 1, .ref q67, .ref q68, .ref q70, .ref q72, .ref q86]))]) hD hS hA [0] rfl
  refine va_calli (va_runV (As := []) (rest := []) ⟨hx, hb, hml, hown, hts⟩ (kX24_thrown_n52 l dC dI (a0 := q64) (a60 := q65) (a62 := q68) (a64 := q70) (a66 := q72) (a82 := q67) (a83 := q86) (sz := _)) (cwV 0 hts (gi_V qw603 qw604 qw605 qw406 (gi_z qw602)) rfl rfl rfl (by decide +kernel) ⟨Nat.le_of_ble_eq_true rfl, Nat.le_of_ble_eq_true rfl⟩) ⟨PRE.blind, va_recv hKc hPc (ci := 15) (q0 := 0) rfl rfl, PRE.of hE hS hFc hPc hKc hDc⟩ rfl rfl hl.1 rfl (lv_room (Nat.le_of_ble_eq_true rfl)) dL_law_2204 ⟨Nat.le_of_ble_eq_true rfl, Nat.le_of_ble_eq_true rfl⟩) hS (fun q _ h => hFc q h) hFc (fun r92 u t H locs ht hvm hw hB hz1 hk1 hS => ?_)
  obtain ⟨hP, hD, hK⟩ := JOIN (wr := []) hP hD hK [0] [] [] rfl rfl (by decide) (by decide) rfl hk1 hFc ht hvm hB
  have hP : va_P (dC, dI) cls [(q64, .inr (15, [.ref q65, .int 0, .int (-1), .int 1, .ref q67, .ref q68, .ref q70, .ref q72, .ref q86]))] H := hP
  have hD : va_D A [(q64, .inr (15, [.ref q65, .int 0, .int (-1), .int 1, .ref q67, .ref q68, .ref q70, .ref q72, .ref q86]))] := hD
  have hK : va_K (dC, dI) cls [] s := hK
  refine W.widen (k := 370) (n := 122520) (Nat.le_of_ble_eq_true rfl) (Nat.le_of_ble_eq_true rfl) ?_
  obtain rfl : r92 = 1 := hw
  refine lv_iload hx hb dL_law_2207 (lv_at hl 1 rfl) ?_
  refine lv_icmp_eq (tgt := 2214) hx hb dL_law_2209 (by decide) (fun _ => ?_) (fun c => absurd (by decide) c)
  refine lv_iload hx hb dL_law_2214 (lv_at hl 1 rfl) ?_
  refine lv_if_ne (tgt := 2231) hx hb dL_law_2216 (by decide) (fun _ => ?_) (fun c => absurd (by decide) c)
  refine lv_goto (tgt := 2818) hx hb dL_law_2231 (by decide) ?_
  refine lv_iinc (v := 7) (lv' := [(4, .int 7), (6, .int 0), (5, .int 1), (3, .ref q87), (2, .ref q64), (1, .ref q1), (0, .ref b)]) hx hb dL_law_2818 hl (k := 2) rfl (by decide) (by decide) rfl (fun ls hl => ?_)
  refine lv_goto (tgt := 23) hx hb dL_law_2821 (by decide) ?_
  refine lv_iload hx hb dL_law_23 (lv_at hl 0 rfl) ?_
  refine lv_aload_n hx hb dL_law_25 rfl (lv_at hl 6 rfl) ?_
  refine va_slen hx hb hX hbl hbA hS dL_law_26 ?_
  refine lv_topC (y := 7) rfl ?_
  refine lv_bipush (v := 7) hx hb dL_law_27 (by decide) ?_
  refine lv_isub hx hb dL_law_29 ?_
  refine lv_topC (y := 0) (by decide) ?_
  refine lv_icmp_gt (tgt := 2824) hx hb dL_law_30 (by decide) (fun _ => ?_) (fun c => absurd (by decide) c)
  refine lv_iconst (v := 1) hx hb dL_law_2824 (by decide) ?_
  refine va_forget (fun q hq => hA2 _ (hS.2.2 q hq)) ?_
  refine W.widen (k := 600002) (n := 7302232) (Nat.le_of_ble_eq_true rfl) (Nat.le_of_ble_eq_true rfl) ?_
  exact lw_ret (d0 := s.drawn) (Drawn.sameBut.refl s.drawn lw_cs) hx hb hr hlocks dL_law_2825
set_option maxHeartbeats 4000000 in
set_option maxRecDepth 100000 in
theorem law_36 {zs : Nat × Nat} {p : Program} {e : Env} {s : State} {m : MethodId} {below : List Frame} {meth : Method} {c : Code} {l : Launch} {b : Nat} {xs : Nat → Int32} {dC : Nat → ClassId} {dI : Nat → Nat → Nat} {A : Nat → Prop} (C0 : lw_At p s m meth c b 7 xs) (hl9 : l.stackTraces = false) (hA : ∀ q, s.heap.size ≤ q → A q) (hA2 : ∀ q, A q → s.heap.size ≤ q) (hE : ENV zs A s s.heap) {H : Heap} {locs : List Loc} (q1 : Nat) (q2 : Nat) (q5 : Nat) (q14 : Nat) (q15 : Nat) (q16 : Nat) (q17 : Nat) (q29 : Nat) (q30 : Nat) (q31 : Nat) (q32 : Nat) (q33 : Nat) (q34 : Nat) (q35 : Nat) (q36 : Nat) (q37 : Nat) (q38 : Nat) (q39 : Nat) (q40 : Nat) (q51 : Nat) (q63 : Nat) (q64 : Nat) (q65 : Nat) (q67 : Nat) (q68 : Nat) (c69 : ClassId) (q70 : Nat) (q72 : Nat) (q86 : Nat) (q87 : Nat) (hP : va_P (dC, dI) cls [(q1, .inr (11, [.ref q2, .ref q5, .ref q14, .ref q15, .ref q16, .ref q17, .ref q51, .ref q63, .ref q29, .ref q40, .int (-1)])), (q29, .inr (2, [.int 0, .ref q30, .ref q31, .ref q32, .ref q33, .ref q34, .ref q35, .int 0, .ref q36, .ref q37, .ref q38, .int 0, .ref q39])), (q64, .inr (15, [.ref q65, .int 0, .int (-1), .int 0, .ref q67, .ref q68, .ref q70, .ref q72, .ref q86])), (q68, .inl (c69, 0, .inr (.inr (.inr (.inr (fun _ => none))))))] H) (hD : va_D A [(q1, .inr (11, [.ref q2, .ref q5, .ref q14, .ref q15, .ref q16, .ref q17, .ref q51, .ref q63, .ref q29, .ref q40, .int (-1)])), (q29, .inr (2, [.int 0, .ref q30, .ref q31, .ref q32, .ref q33, .ref q34, .ref q35, .int 0, .ref q36, .ref q37, .ref q38, .int 0, .ref q39])), (q64, .inr (15, [.ref q65, .int 0, .int (-1), .int 0, .ref q67, .ref q68, .ref q70, .ref q72, .ref q86])), (q68, .inl (c69, 0, .inr (.inr (.inr (.inr (fun _ => none))))))]) (hK : va_K (dC, dI) cls [(c69, .object RX14)] s) (hS : va_S A s.heap H locs) {ls : Array Slot} (hl : lv_has ls 9 [(4, .int 0), (3, .ref q87), (2, .ref q64), (1, .ref q1), (0, .ref b)])  : W p l e room_1 s m #[Value.ref b] below meth c H locs 369 122514 (lw_Z below #[Value.ref b] s) (F0 m 2234 ls []) := by
  obtain ⟨hx, hb, hr, hml, hown, hts0, hX, hbl, hlocks, hgv⟩ := id C0
  have hts : ∀ w ∈ gw, w.before #[Value.ref b] s = true := fun w h => hts0 w (gw_tbl h)
  have hbA : ¬ A b := fun h => absurd (hA2 b h) (Nat.not_le.mpr hbl)
  refine lv_aload_n hx hb dL_law_2234 rfl (lv_at hl 3 rfl) ?_
  refine lv_aload_n hx hb dL_law_2235 rfl (lv_at hl 4 rfl) ?_
  refine lv_iload hx hb dL_law_2236 (lv_at hl 0 rfl) ?_
  refine lv_iconst (v := 1) hx hb dL_law_2238 (by decide) ?_
  refine lv_iadd hx hb dL_law_2239 ?_
  refine lv_topC (y := 1) (by decide) ?_
  refine va_sld hx hb hX hbl hbA hS (by unfold vp_in; decide +kernel) dL_law_2240 ?_
  refine lv_topC (y := xs 1) rfl ?_
  refine lv_aload_n hx hb dL_law_2241 rfl (lv_at hl 4 rfl) ?_
  refine lv_iload hx hb dL_law_2242 (lv_at hl 0 rfl) ?_
  refine lv_iconst (v := 2) hx hb dL_law_2244 (by decide) ?_
  refine lv_iadd hx hb dL_law_2245 ?_
  refine lv_topC (y := 2) (by decide) ?_
  refine va_sld hx hb hX hbl hbA hS (by unfold vp_in; decide +kernel) dL_law_2246 ?_
  refine lv_topC (y := xs 2) rfl ?_
  refine lv_aload_n hx hb dL_law_2247 rfl (lv_at hl 1 rfl) ?_
  have hPc := hP.sub (ws' := [(q1, .inr (11, [.ref q2, .ref q5, .ref q14, .ref q15, .ref q16, .ref q17, .ref q51, .ref q63, .ref q29, .ref q40, .int (-1)])), (q29, .inr (2, [.int 0, .ref q30, .ref q31, .ref q32, .ref q33, .ref q34, .ref q35, .int 0, .ref q36, .ref q37, .ref q38, .int 0, .ref q39]))]) [0, 1] rfl
  have hDc := hD.sub (ws' := [(q1, .inr (11, [.ref q2, .ref q5, .ref q14, .ref q15, .ref q16, .ref q17, .ref q51, .ref q63, .ref q29, .ref q40, .int (-1)])), (q29, .inr (2, [.int 0, .ref q30, .ref q31, .ref q32, .ref q33, .ref q34, .ref q35, .int 0, .ref q36, .ref q37, .ref q38, .int 0, .ref q39]))]) [0, 1] (by decide) rfl
  have hKc := hK.sub (tys' := []) [] rfl
  have hFc := va_free (wc := [(q1, .inr (11, [.ref q2, .ref q5, .ref q14, .ref q15, .ref q16, .ref q17, .ref q51, .ref q63, .ref q29, .ref q40, .int (-1)])), (q29, .inr (2, [.int 0, .ref q30, .ref q31, .ref q32, .ref q33, .ref q34, .ref q35, .int 0, .ref q36, .ref q37, .ref q38, .int 0, .ref q39]))]) hD hS hA [0, 1] rfl
  refine va_calli (vx_runSW (As := [.ref q1, .int (xs 1), .int (xs 2), .ref q87]) (rest := []) ⟨hx, hb, hml, hown, hts⟩ (kL_codeRight l dC dI (gx := q1) (gq1 := q2) (gq4 := q5) (gq13 := q14) (gq136 := q15) (gq137 := q16) (gq138 := q17) (gq150 := q29) (gq151 := q30) (gq152 := q31) (gq153 := q32) (gq154 := q33) (gq155 := q34) (gq156 := q35) (gq157 := q36) (gq158 := q37) (gq159 := q38) (gq160 := q39) (gq161 := q40) (gq172 := q51) (gq184 := q63) (go := q87) (p0 := (xs 1)) (p1 := (xs 2)) (sz := _) (hl9 := hl9)) (vx_cwSW 4 hts (gi_S qw839 qw840 qw597 (gi_h qw838)) rfl rfl rfl (by decide +kernel) ⟨Nat.le_of_ble_eq_true rfl, Nat.le_of_ble_eq_true rfl⟩) ⟨PRE.blind, PRE.of hE hS hFc hPc hKc hDc⟩ rfl rfl hl.1 rfl (lv_room (Nat.le_of_ble_eq_true rfl)) dL_law_2248 ⟨Nat.le_of_ble_eq_true rfl, Nat.le_of_ble_eq_true rfl⟩) hS (fun q _ h => hFc q h) hFc (fun r90 u t H locs ht hvm hw hB hz1 hk1 hS => ?_)
  obtain ⟨hP, hD, hK⟩ := JOIN (wr := [(q64, .inr (15, [.ref q65, .int 0, .int (-1), .int 0, .ref q67, .ref q68, .ref q70, .ref q72, .ref q86])), (q68, .inl (c69, 0, .inr (.inr (.inr (.inr (fun _ => none))))))]) hP hD hK [0, 1] [2, 3] [0] rfl rfl (by decide) (by decide) rfl hk1 hFc ht hvm hB
  have hP : va_P (dC, dI) cls [(q64, .inr (15, [.ref q65, .int 0, .int (-1), .int 0, .ref q67, .ref q68, .ref q70, .ref q72, .ref q86])), (q68, .inl (c69, 0, .inr (.inr (.inr (.inr (fun _ => none))))))] H := hP
  have hD : va_D A [(q64, .inr (15, [.ref q65, .int 0, .int (-1), .int 0, .ref q67, .ref q68, .ref q70, .ref q72, .ref q86])), (q68, .inl (c69, 0, .inr (.inr (.inr (.inr (fun _ => none))))))] := hD
  have hK : va_K (dC, dI) cls [(c69, .object RX14)] s := hK
  refine W.widen (k := 370) (n := 122520) (Nat.le_of_ble_eq_true rfl) (Nat.le_of_ble_eq_true rfl) ?_
  obtain rfl : r90 = 1 := hw
  refine lv_istore (lv' := [(5, .int 1), (4, .int 0), (3, .ref q87), (2, .ref q64), (1, .ref q1), (0, .ref b)]) hx hb dL_law_2251 hl (by decide) rfl (fun ls hl => ?_)
  refine lv_aload_n hx hb dL_law_2253 rfl (lv_at hl 3 rfl) ?_
  refine lv_aload_n hx hb dL_law_2254 rfl (lv_at hl 5 rfl) ?_
  refine lv_iload hx hb dL_law_2255 (lv_at hl 1 rfl) ?_
  refine lv_iconst (v := 1) hx hb dL_law_2257 (by decide) ?_
  refine lv_iadd hx hb dL_law_2258 ?_
  refine lv_topC (y := 1) (by decide) ?_
  refine va_sld hx hb hX hbl hbA hS (by unfold vp_in; decide +kernel) dL_law_2259 ?_
  refine lv_topC (y := xs 1) rfl ?_
  refine lv_aload_n hx hb dL_law_2260 rfl (lv_at hl 5 rfl) ?_
  refine lv_iload hx hb dL_law_2261 (lv_at hl 1 rfl) ?_
  refine lv_iconst (v := 2) hx hb dL_law_2263 (by decide) ?_
  refine lv_iadd hx hb dL_law_2264 ?_
  refine lv_topC (y := 2) (by decide) ?_
  refine va_sld hx hb hX hbl hbA hS (by unfold vp_in; decide +kernel) dL_law_2265 ?_
  refine lv_topC (y := xs 2) rfl ?_
  have hPc := hP.sub (ws' := [(q64, .inr (15, [.ref q65, .int 0, .int (-1), .int 0, .ref q67, .ref q68, .ref q70, .ref q72, .ref q86])), (q68, .inl (c69, 0, .inr (.inr (.inr (.inr (fun _ => none))))))]) [0, 1] rfl
  have hDc := hD.sub (ws' := [(q64, .inr (15, [.ref q65, .int 0, .int (-1), .int 0, .ref q67, .ref q68, .ref q70, .ref q72, .ref q86])), (q68, .inl (c69, 0, .inr (.inr (.inr (.inr (fun _ => none))))))]) [0, 1] (by decide) rfl
  have hKc := hK.sub (tys' := [(c69, .object RX14)]) [0] rfl
  have hFc := va_free (wc := [(q64, .inr (15, [.ref q65, .int 0, .int (-1), .int 0, .ref q67, .ref q68, .ref q70, .ref q72, .ref q86])), (q68, .inl (c69, 0, .inr (.inr (.inr (.inr (fun _ => none))))))]) hD hS hA [0, 1] rfl
  refine va_calli (va_runV (As := [.int (xs 1), .int (xs 2)]) (rest := []) ⟨hx, hb, hml, hown, hts⟩ (kX24_codeRight l dC dI (mx := q64) (mq1 := q65) (mq3 := q67) (mq4 := q68) (mc5 := c69) (mq6 := q70) (mq8 := q72) (mq22 := q86) (p0 := (xs 1)) (p1 := (xs 2)) (sz := _)) (cwV 2 hts (gi_V qw842 qw843 qw844 qw406 (gi_z qw841)) rfl rfl rfl (by decide +kernel) ⟨Nat.le_of_ble_eq_true rfl, Nat.le_of_ble_eq_true rfl⟩) ⟨PRE.blind, va_recv hKc hPc (ci := 15) (q0 := 0) rfl rfl, PRE.of hE hS hFc hPc hKc hDc⟩ rfl rfl hl.1 rfl (lv_room (Nat.le_of_ble_eq_true rfl)) dL_law_2266 ⟨Nat.le_of_ble_eq_true rfl, Nat.le_of_ble_eq_true rfl⟩) hS (fun q _ h => hFc q h) hFc (fun r91 u t H locs ht hvm hw hB hz1 hk1 hS => ?_)
  obtain ⟨hP, hD, hK⟩ := JOIN (wr := []) hP hD hK [0, 1] [] [] rfl rfl (by decide) (by decide) rfl hk1 hFc ht hvm hB
  have hP : va_P (dC, dI) cls [(q64, .inr (15, [.ref q65, .int 0, .int (-1), .int 1, .ref q67, .ref q68, .ref q70, .ref q72, .ref q86]))] H := hP
  have hD : va_D A [(q64, .inr (15, [.ref q65, .int 0, .int (-1), .int 1, .ref q67, .ref q68, .ref q70, .ref q72, .ref q86]))] := hD
  have hK : va_K (dC, dI) cls [] s := hK
  refine W.widen (k := 370) (n := 122520) (Nat.le_of_ble_eq_true rfl) (Nat.le_of_ble_eq_true rfl) ?_
  obtain rfl : r91 = 0 := hw
  refine lv_istore (lv' := [(6, .int 0), (5, .int 1), (4, .int 0), (3, .ref q87), (2, .ref q64), (1, .ref q1), (0, .ref b)]) hx hb dL_law_2269 hl (by decide) rfl (fun ls hl => ?_)
  refine lv_aload_n hx hb dL_law_2271 rfl (lv_at hl 4 rfl) ?_
  have hPc := hP.sub (ws' := [(q64, .inr (15, [.ref q65, .int 0, .int (-1), .int 1, .ref q67, .ref q68, .ref q70, .ref q72, .ref q86]))]) [0] rfl
  have hDc := hD.sub (ws' := [(q64, .inr (15, [.ref q65, .int 0, .int (-1), .int 1, .ref q67, .ref q68, .ref q70, .ref q72, .ref q86]))]) [0] (by decide) rfl
  have hKc := hK.sub (tys' := []) [] rfl
  have hFc := va_free (wc := [(q64, .inr (15, [.ref q65, .int 0, .int (-1), .int 1, .ref q67, .ref q68, .ref q70, .ref q72, .ref q86]))]) hD hS hA [0] rfl
  refine va_calli (va_runV (As := []) (rest := []) ⟨hx, hb, hml, hown, hts⟩ (kX24_thrown_n52 l dC dI (a0 := q64) (a60 := q65) (a62 := q68) (a64 := q70) (a66 := q72) (a82 := q67) (a83 := q86) (sz := _)) (cwV 0 hts (gi_V qw603 qw604 qw605 qw406 (gi_z qw602)) rfl rfl rfl (by decide +kernel) ⟨Nat.le_of_ble_eq_true rfl, Nat.le_of_ble_eq_true rfl⟩) ⟨PRE.blind, va_recv hKc hPc (ci := 15) (q0 := 0) rfl rfl, PRE.of hE hS hFc hPc hKc hDc⟩ rfl rfl hl.1 rfl (lv_room (Nat.le_of_ble_eq_true rfl)) dL_law_2272 ⟨Nat.le_of_ble_eq_true rfl, Nat.le_of_ble_eq_true rfl⟩) hS (fun q _ h => hFc q h) hFc (fun r92 u t H locs ht hvm hw hB hz1 hk1 hS => ?_)
  obtain ⟨hP, hD, hK⟩ := JOIN (wr := []) hP hD hK [0] [] [] rfl rfl (by decide) (by decide) rfl hk1 hFc ht hvm hB
  have hP : va_P (dC, dI) cls [(q64, .inr (15, [.ref q65, .int 0, .int (-1), .int 1, .ref q67, .ref q68, .ref q70, .ref q72, .ref q86]))] H := hP
  have hD : va_D A [(q64, .inr (15, [.ref q65, .int 0, .int (-1), .int 1, .ref q67, .ref q68, .ref q70, .ref q72, .ref q86]))] := hD
  have hK : va_K (dC, dI) cls [] s := hK
  refine W.widen (k := 370) (n := 122520) (Nat.le_of_ble_eq_true rfl) (Nat.le_of_ble_eq_true rfl) ?_
  obtain rfl : r92 = 1 := hw
  refine lv_iload hx hb dL_law_2275 (lv_at hl 1 rfl) ?_
  refine lv_icmp_eq (tgt := 2282) hx hb dL_law_2277 (by decide) (fun _ => ?_) (fun c => absurd (by decide) c)
  refine lv_iload hx hb dL_law_2282 (lv_at hl 1 rfl) ?_
  refine lv_if_ne (tgt := 2299) hx hb dL_law_2284 (by decide) (fun _ => ?_) (fun c => absurd (by decide) c)
  refine lv_goto (tgt := 2818) hx hb dL_law_2299 (by decide) ?_
  refine lv_iinc (v := 7) (lv' := [(4, .int 7), (6, .int 0), (5, .int 1), (3, .ref q87), (2, .ref q64), (1, .ref q1), (0, .ref b)]) hx hb dL_law_2818 hl (k := 2) rfl (by decide) (by decide) rfl (fun ls hl => ?_)
  refine lv_goto (tgt := 23) hx hb dL_law_2821 (by decide) ?_
  refine lv_iload hx hb dL_law_23 (lv_at hl 0 rfl) ?_
  refine lv_aload_n hx hb dL_law_25 rfl (lv_at hl 6 rfl) ?_
  refine va_slen hx hb hX hbl hbA hS dL_law_26 ?_
  refine lv_topC (y := 7) rfl ?_
  refine lv_bipush (v := 7) hx hb dL_law_27 (by decide) ?_
  refine lv_isub hx hb dL_law_29 ?_
  refine lv_topC (y := 0) (by decide) ?_
  refine lv_icmp_gt (tgt := 2824) hx hb dL_law_30 (by decide) (fun _ => ?_) (fun c => absurd (by decide) c)
  refine lv_iconst (v := 1) hx hb dL_law_2824 (by decide) ?_
  refine va_forget (fun q hq => hA2 _ (hS.2.2 q hq)) ?_
  refine W.widen (k := 600002) (n := 7302232) (Nat.le_of_ble_eq_true rfl) (Nat.le_of_ble_eq_true rfl) ?_
  exact lw_ret (d0 := s.drawn) (Drawn.sameBut.refl s.drawn lw_cs) hx hb hr hlocks dL_law_2825
