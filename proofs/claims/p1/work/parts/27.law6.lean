theorem dL_law_2763 : decode cL_law 2763 = .ok (.aload_n 1, 1) := by decide +kernel
theorem dL_law_2764 : decode cL_law 2764 = .ok (.invokevirtual 289, 3) := by decide +kernel
theorem dL_law_2767 : decode cL_law 2767 = .ok (.dstore 5, 2) := by decide +kernel
theorem dL_law_2769 : decode cL_law 2769 = .ok (.aload_n 2, 1) := by decide +kernel
theorem dL_law_2770 : decode cL_law 2770 = .ok (.invokevirtual 293, 3) := by decide +kernel
theorem dL_law_2773 : decode cL_law 2773 = .ok (.dstore 7, 2) := by decide +kernel
theorem dL_law_2775 : decode cL_law 2775 = .ok (.dload 5, 2) := by decide +kernel
theorem dL_law_2777 : decode cL_law 2777 = .ok (.dload 7, 2) := by decide +kernel
theorem dL_law_2779 : decode cL_law 2779 = .ok (.dcmp .l, 1) := by decide +kernel
theorem dL_law_2780 : decode cL_law 2780 = .ok (.ifCond .eq 21, 3) := by decide +kernel
theorem dL_law_2801 : decode cL_law 2801 = .ok (.goto 17, 3) := by decide +kernel
theorem dL_law_2804 : decode cL_law 2804 = .ok (.aload_n 1, 1) := by decide +kernel
theorem dL_law_2805 : decode cL_law 2805 = .ok (.invokevirtual 294, 3) := by decide +kernel
theorem dL_law_2808 : decode cL_law 2808 = .ok (.aload_n 2, 1) := by decide +kernel
theorem dL_law_2809 : decode cL_law 2809 = .ok (.invokevirtual 298, 3) := by decide +kernel
theorem dL_law_2812 : decode cL_law 2812 = .ok (.lcmp, 1) := by decide +kernel
theorem dL_law_2813 : decode cL_law 2813 = .ok (.ifCond .eq 5, 3) := by decide +kernel
theorem qw980 : Cond.code yX11_meanCode cX11_meanCode 3 (Option.some Jvm.ClassFile.FieldType.double) ∈ gw := mq_8 (i := 189) rfl rfl
theorem qw981 : Cond.methodLink RL 289 yX11_meanCode ∈ gw := mq_8 (i := 186) rfl rfl
theorem qw982 : Cond.instanceMethod yX11_meanCode ∈ gw := mq_8 (i := 187) rfl rfl
theorem qw983 : Cond.selects RX11 yX11_meanCode yX11_meanCode ∈ gw := mq_8 (i := 188) rfl rfl
theorem qw984 : Cond.code yX24_meanCode cX24_meanCode 6 (Option.some Jvm.ClassFile.FieldType.double) ∈ gw := mq_19 (i := 74) rfl rfl
theorem qw985 : Cond.methodLink RL 293 yX24_meanCode ∈ gw := mq_19 (i := 71) rfl rfl
theorem qw986 : Cond.instanceMethod yX24_meanCode ∈ gw := mq_19 (i := 72) rfl rfl
theorem qw987 : Cond.selects RX24 yX24_meanCode yX24_meanCode ∈ gw := mq_19 (i := 73) rfl rfl
theorem qw988 : Cond.code yX11_digest cX11_digest 4 (Option.some Jvm.ClassFile.FieldType.long) ∈ gw := mq_8 (i := 197) rfl rfl
theorem qw989 : Cond.methodLink RL 294 yX11_digest ∈ gw := mq_8 (i := 194) rfl rfl
theorem qw990 : Cond.instanceMethod yX11_digest ∈ gw := mq_8 (i := 195) rfl rfl
theorem qw991 : Cond.selects RX11 yX11_digest yX11_digest ∈ gw := mq_8 (i := 196) rfl rfl
theorem qw992 : Cond.code yX24_digest cX24_digest 11 (Option.some Jvm.ClassFile.FieldType.long) ∈ gw := mq_19 (i := 78) rfl rfl
theorem qw993 : Cond.methodLink RL 298 yX24_digest ∈ gw := mq_19 (i := 75) rfl rfl
theorem qw994 : Cond.instanceMethod yX24_digest ∈ gw := mq_19 (i := 76) rfl rfl
theorem qw995 : Cond.selects RX24 yX24_digest yX24_digest ∈ gw := mq_19 (i := 77) rfl rfl
set_option maxHeartbeats 4000000 in
set_option maxRecDepth 100000 in
theorem law_46 {zs : Nat × Nat} {p : Program} {e : Env} {s : State} {m : MethodId} {below : List Frame} {meth : Method} {c : Code} {l : Launch} {b : Nat} {xs : Nat → Int32} {dC : Nat → ClassId} {dI : Nat → Nat → Nat} {A : Nat → Prop} (C0 : lw_At p s m meth c b 7 xs) (hl9 : l.stackTraces = false) (hA : ∀ q, s.heap.size ≤ q → A q) (hA2 : ∀ q, A q → s.heap.size ≤ q) (hE : ENV zs A s s.heap) {H : Heap} {locs : List Loc} (q1 : Nat) (q2 : Nat) (q5 : Nat) (q14 : Nat) (q15 : Nat) (q16 : Nat) (q17 : Nat) (q18 : Nat) (q19 : Nat) (q20 : Nat) (q21 : Nat) (q22 : Nat) (q23 : Nat) (q24 : Nat) (q25 : Nat) (q26 : Nat) (q27 : Nat) (q28 : Nat) (q29 : Nat) (q40 : Nat) (q51 : Nat) (q63 : Nat) (q64 : Nat) (q65 : Nat) (q67 : Nat) (q68 : Nat) (q70 : Nat) (c71 : ClassId) (q72 : Nat) (q86 : Nat) (q87 : Nat) (hP : va_P (dC, dI) cls [(q1, .inr (11, [.ref q2, .ref q5, .ref q14, .ref q15, .ref q16, .ref q17, .ref q51, .ref q63, .ref q29, .ref q40, .int (-1)])), (q17, .inr (8, [.ref q18, .ref q19, .ref q20, .ref q21, .ref q22, .int 0, .ref q23, .int 0, .int 0, .int 0, .int 0, .int 0, .ref q24, .ref q25, .ref q26, .ref q27, .ref q28])), (q64, .inr (15, [.ref q65, .int 0, .int (-1), .int 0, .ref q67, .ref q68, .ref q70, .ref q72, .ref q86])), (q70, .inl (c71, 0, .inr (.inr (.inr (.inr (fun _ => none))))))] H) (hD : va_D A [(q1, .inr (11, [.ref q2, .ref q5, .ref q14, .ref q15, .ref q16, .ref q17, .ref q51, .ref q63, .ref q29, .ref q40, .int (-1)])), (q17, .inr (8, [.ref q18, .ref q19, .ref q20, .ref q21, .ref q22, .int 0, .ref q23, .int 0, .int 0, .int 0, .int 0, .int 0, .ref q24, .ref q25, .ref q26, .ref q27, .ref q28])), (q64, .inr (15, [.ref q65, .int 0, .int (-1), .int 0, .ref q67, .ref q68, .ref q70, .ref q72, .ref q86])), (q70, .inl (c71, 0, .inr (.inr (.inr (.inr (fun _ => none))))))]) (hK : va_K (dC, dI) cls [(c71, .object RX13)] s) (hS : va_S A s.heap H locs) {ls : Array Slot} (hl : lv_has ls 9 [(4, .int 0), (3, .ref q87), (2, .ref q64), (1, .ref q1), (0, .ref b)])  : W p l e room_1 s m #[Value.ref b] below meth c H locs 369 122514 (lw_Z below #[Value.ref b] s) (F0 m 2763 ls []) := by
  obtain ⟨hx, hb, hr, hml, hown, hts0, hX, hbl, hlocks, hgv⟩ := id C0
  have hts : ∀ w ∈ gw, w.before #[Value.ref b] s = true := fun w h => hts0 w (gw_tbl h)
  have hbA : ¬ A b := fun h => absurd (hA2 b h) (Nat.not_le.mpr hbl)
  refine lv_aload_n hx hb dL_law_2763 rfl (lv_at hl 3 rfl) ?_
  have hPc := hP.sub (ws' := [(q1, .inr (11, [.ref q2, .ref q5, .ref q14, .ref q15, .ref q16, .ref q17, .ref q51, .ref q63, .ref q29, .ref q40, .int (-1)])), (q17, .inr (8, [.ref q18, .ref q19, .ref q20, .ref q21, .ref q22, .int 0, .ref q23, .int 0, .int 0, .int 0, .int 0, .int 0, .ref q24, .ref q25, .ref q26, .ref q27, .ref q28]))]) [0, 1] rfl
  have hDc := hD.sub (ws' := [(q1, .inr (11, [.ref q2, .ref q5, .ref q14, .ref q15, .ref q16, .ref q17, .ref q51, .ref q63, .ref q29, .ref q40, .int (-1)])), (q17, .inr (8, [.ref q18, .ref q19, .ref q20, .ref q21, .ref q22, .int 0, .ref q23, .int 0, .int 0, .int 0, .int 0, .int 0, .ref q24, .ref q25, .ref q26, .ref q27, .ref q28]))]) [0, 1] (by decide) rfl
  have hKc := hK.sub (tys' := []) [] rfl
  have hFc := va_free (wc := [(q1, .inr (11, [.ref q2, .ref q5, .ref q14, .ref q15, .ref q16, .ref q17, .ref q51, .ref q63, .ref q29, .ref q40, .int (-1)])), (q17, .inr (8, [.ref q18, .ref q19, .ref q20, .ref q21, .ref q22, .int 0, .ref q23, .int 0, .int 0, .int 0, .int 0, .int 0, .ref q24, .ref q25, .ref q26, .ref q27, .ref q28]))]) hD hS hA [0, 1] rfl
  refine va_calld (va_runV (As := []) (rest := []) ⟨hx, hb, hml, hown, hts⟩ (kX11_meanCode l dC dI (gx := q1) (gq1 := q2) (gq4 := q5) (gq13 := q14) (gq136 := q15) (gq137 := q16) (gq138 := q17) (gq139 := q18) (gq140 := q19) (gq141 := q20) (gq142 := q21) (gq143 := q22) (gq144 := q23) (gq145 := q24) (gq146 := q25) (gq147 := q26) (gq148 := q27) (gq149 := q28) (gq150 := q29) (gq161 := q40) (gq172 := q51) (gq184 := q63) (sz := _)) (cwV 0 hts (gi_V qw981 qw982 qw983 qw222 (gi_z qw980)) rfl rfl rfl (by decide +kernel) ⟨Nat.le_of_ble_eq_true rfl, Nat.le_of_ble_eq_true rfl⟩) ⟨PRE.blind, va_recv hKc hPc (ci := 11) (q0 := 0) rfl rfl, PRE.of hE hS hFc hPc hKc hDc⟩ rfl rfl hl.1 rfl (lv_room (Nat.le_of_ble_eq_true rfl)) dL_law_2764 ⟨Nat.le_of_ble_eq_true rfl, Nat.le_of_ble_eq_true rfl⟩) hS (fun q _ h => hFc q h) hFc (fun r90 u t H locs ht hvm hw hB hz1 hk1 hS => ?_)
  obtain ⟨hP, hD, hK⟩ := JOIN (wr := [(q64, .inr (15, [.ref q65, .int 0, .int (-1), .int 0, .ref q67, .ref q68, .ref q70, .ref q72, .ref q86])), (q70, .inl (c71, 0, .inr (.inr (.inr (.inr (fun _ => none))))))]) hP hD hK [0, 1] [2, 3] [0] rfl rfl (by decide) (by decide) rfl hk1 hFc ht hvm hB
  have hP : va_P (dC, dI) cls [(q64, .inr (15, [.ref q65, .int 0, .int (-1), .int 0, .ref q67, .ref q68, .ref q70, .ref q72, .ref q86])), (q70, .inl (c71, 0, .inr (.inr (.inr (.inr (fun _ => none))))))] H := hP
  have hD : va_D A [(q64, .inr (15, [.ref q65, .int 0, .int (-1), .int 0, .ref q67, .ref q68, .ref q70, .ref q72, .ref q86])), (q70, .inl (c71, 0, .inr (.inr (.inr (.inr (fun _ => none))))))] := hD
  have hK : va_K (dC, dI) cls [(c71, .object RX13)] s := hK
  refine W.widen (k := 369) (n := 122514) (Nat.le_of_ble_eq_true rfl) (Nat.le_of_ble_eq_true rfl) ?_
  obtain rfl : r90 = FP.dconst0 := hw
  refine lv_dstore (lv' := [(5, .double FP.dconst0), (4, .int 0), (3, .ref q87), (2, .ref q64), (1, .ref q1), (0, .ref b)]) hx hb dL_law_2767 hl (by decide) rfl (fun ls hl => ?_)
  refine lv_aload_n hx hb dL_law_2769 rfl (lv_at hl 3 rfl) ?_
  have hPc := hP.sub (ws' := [(q64, .inr (15, [.ref q65, .int 0, .int (-1), .int 0, .ref q67, .ref q68, .ref q70, .ref q72, .ref q86])), (q70, .inl (c71, 0, .inr (.inr (.inr (.inr (fun _ => none))))))]) [0, 1] rfl
  have hDc := hD.sub (ws' := [(q64, .inr (15, [.ref q65, .int 0, .int (-1), .int 0, .ref q67, .ref q68, .ref q70, .ref q72, .ref q86])), (q70, .inl (c71, 0, .inr (.inr (.inr (.inr (fun _ => none))))))]) [0, 1] (by decide) rfl
  have hKc := hK.sub (tys' := [(c71, .object RX13)]) [0] rfl
  have hFc := va_free (wc := [(q64, .inr (15, [.ref q65, .int 0, .int (-1), .int 0, .ref q67, .ref q68, .ref q70, .ref q72, .ref q86])), (q70, .inl (c71, 0, .inr (.inr (.inr (.inr (fun _ => none))))))]) hD hS hA [0, 1] rfl
  refine va_calld (va_runV (As := []) (rest := []) ⟨hx, hb, hml, hown, hts⟩ (kX24_meanCode l dC dI (mx := q64) (mq1 := q65) (mq3 := q67) (mq4 := q68) (mq6 := q70) (mc7 := c71) (mq8 := q72) (mq22 := q86) (sz := _)) (cwV 0 hts (gi_V qw985 qw986 qw987 qw434 (gi_z qw984)) rfl rfl rfl (by decide +kernel) ⟨Nat.le_of_ble_eq_true rfl, Nat.le_of_ble_eq_true rfl⟩) ⟨PRE.blind, va_recv hKc hPc (ci := 15) (q0 := 0) rfl rfl, PRE.of hE hS hFc hPc hKc hDc⟩ rfl rfl hl.1 rfl (lv_room (Nat.le_of_ble_eq_true rfl)) dL_law_2770 ⟨Nat.le_of_ble_eq_true rfl, Nat.le_of_ble_eq_true rfl⟩) hS (fun q _ h => hFc q h) hFc (fun r91 u t H locs ht hvm hw hB hz1 hk1 hS => ?_)
  obtain ⟨hP, hD, hK⟩ := JOIN (wr := []) hP hD hK [0, 1] [] [] rfl rfl (by decide) (by decide) rfl hk1 hFc ht hvm hB
  have hP : va_P (dC, dI) cls [(q64, .inr (15, [.ref q65, .int 0, .int (-1), .int 0, .ref q67, .ref q68, .ref q70, .ref q72, .ref q86]))] H := hP
  have hD : va_D A [(q64, .inr (15, [.ref q65, .int 0, .int (-1), .int 0, .ref q67, .ref q68, .ref q70, .ref q72, .ref q86]))] := hD
  have hK : va_K (dC, dI) cls [] s := hK
  refine W.widen (k := 369) (n := 122514) (Nat.le_of_ble_eq_true rfl) (Nat.le_of_ble_eq_true rfl) ?_
  obtain rfl : r91 = FP.dconst0 := hw
  refine lv_dstore (lv' := [(7, .double FP.dconst0), (5, .double FP.dconst0), (4, .int 0), (3, .ref q87), (2, .ref q64), (1, .ref q1), (0, .ref b)]) hx hb dL_law_2773 hl (by decide) rfl (fun ls hl => ?_)
  refine lv_dload hx hb dL_law_2775 (lv_at hl 1 rfl) ?_
  refine lv_dload hx hb dL_law_2777 (lv_at hl 0 rfl) ?_
  refine lv_dcmp hx hb dL_law_2779 ?_
  refine lv_topC (y := 0) (by decide +kernel) ?_
  refine lv_if_eq (tgt := 2801) hx hb dL_law_2780 (by decide) (fun _ => ?_) (fun c => absurd (by decide) c)
  refine lv_goto (tgt := 2818) hx hb dL_law_2801 (by decide) ?_
  refine lv_iinc (v := 7) (lv' := [(4, .int 7), (7, .double FP.dconst0), (5, .double FP.dconst0), (3, .ref q87), (2, .ref q64), (1, .ref q1), (0, .ref b)]) hx hb dL_law_2818 hl (k := 2) rfl (by decide) (by decide) rfl (fun ls hl => ?_)
  refine lv_goto (tgt := 23) hx hb dL_law_2821 (by decide) ?_
  refine lv_iload hx hb dL_law_23 (lv_at hl 0 rfl) ?_
  refine lv_aload_n hx hb dL_law_25 rfl (lv_at hl 6 rfl) ?_
  refine va_slen hx hb hX hbl hbA hS dL_law_26 ?_
  refine lv_topC (y := 7) rfl ?_
  refine lv_bipush (v := 7) hx hb dL_law_27 (by decide) ?_
  refine lv_isub hx hb dL_law_29 ?_
  refine lv_topC (y := 0) (by decide) ?_
  refine lv_icmp_gt (tgt := 2824) hx hb dL_law_30 (by decide) (fun _ => ?_) (fun c => absurd (by decide) c)
  refine lv_iconst (v := 1) hx hb dL_law_2824 (by decide) ?_
  refine va_forget (fun q hq => hA2 _ (hS.2.2 q hq)) ?_
  refine W.widen (k := 600002) (n := 7302232) (Nat.le_of_ble_eq_true rfl) (Nat.le_of_ble_eq_true rfl) ?_
  exact lw_ret (d0 := s.drawn) (Drawn.sameBut.refl s.drawn lw_cs) hx hb hr hlocks dL_law_2825
set_option maxHeartbeats 4000000 in
set_option maxRecDepth 100000 in
theorem law_47 {zs : Nat × Nat} {p : Program} {e : Env} {s : State} {m : MethodId} {below : List Frame} {meth : Method} {c : Code} {l : Launch} {b : Nat} {xs : Nat → Int32} {dC : Nat → ClassId} {dI : Nat → Nat → Nat} {A : Nat → Prop} (C0 : lw_At p s m meth c b 7 xs) (hl9 : l.stackTraces = false) (hA : ∀ q, s.heap.size ≤ q → A q) (hA2 : ∀ q, A q → s.heap.size ≤ q) (hE : ENV zs A s s.heap) {H : Heap} {locs : List Loc} (q1 : Nat) (q2 : Nat) (q5 : Nat) (q14 : Nat) (q15 : Nat) (q16 : Nat) (q17 : Nat) (q29 : Nat) (q30 : Nat) (q31 : Nat) (q32 : Nat) (q33 : Nat) (q34 : Nat) (q35 : Nat) (q36 : Nat) (q37 : Nat) (q38 : Nat) (q39 : Nat) (q40 : Nat) (q51 : Nat) (q52 : Nat) (c53 : ClassId) (q54 : Nat) (q55 : Nat) (q56 : Nat) (q57 : Nat) (q58 : Nat) (q59 : Nat) (q60 : Nat) (q61 : Nat) (q62 : Nat) (q63 : Nat) (q64 : Nat) (q65 : Nat) (q67 : Nat) (q68 : Nat) (c69 : ClassId) (q70 : Nat) (q72 : Nat) (q73 : Nat) (c74 : ClassId) (q75 : Nat) (q76 : Nat) (q77 : Nat) (q78 : Nat) (q79 : Nat) (q80 : Nat) (q81 : Nat) (q82 : Nat) (q83 : Nat) (q84 : Nat) (q85 : Nat) (q86 : Nat) (q87 : Nat) (hP : va_P (dC, dI) cls [(q1, .inr (11, [.ref q2, .ref q5, .ref q14, .ref q15, .ref q16, .ref q17, .ref q51, .ref q63, .ref q29, .ref q40, .int (-1)])), (q29, .inr (2, [.int 0, .ref q30, .ref q31, .ref q32, .ref q33, .ref q34, .ref q35, .int 0, .ref q36, .ref q37, .ref q38, .int 0, .ref q39])), (q51, .inr (10, [.int 0, .int 0, .int 0, .ref q52, .ref q29, .ref q14, .ref q17, .ref q54, .int 0, .int 0, .ref q55, .ref q56, .ref q57, .ref q58, .ref q59, .ref q60, .ref q61, .int 0, .ref q62, .int 0])), (q52, .inl (c53, 16, .inl (fun _ => 0))), (q64, .inr (15, [.ref q65, .int 0, .int (-1), .int 0, .ref q67, .ref q68, .ref q70, .ref q72, .ref q86])), (q68, .inl (c69, 0, .inr (.inr (.inr (.inr (fun _ => none)))))), (q72, .inr (14, [.ref q73, .int 0, .int 0, .int 0, .null, .ref q75, .ref q76, .ref q77, .ref q78, .ref q79, .int 0, .int 0, .ref q80, .ref q81, .ref q82, .ref q83, .ref q84, .ref q85])), (q73, .inl (c74, 16, .inl (fun _ => 0)))] H) (hD : va_D A [(q1, .inr (11, [.ref q2, .ref q5, .ref q14, .ref q15, .ref q16, .ref q17, .ref q51, .ref q63, .ref q29, .ref q40, .int (-1)])), (q29, .inr (2, [.int 0, .ref q30, .ref q31, .ref q32, .ref q33, .ref q34, .ref q35, .int 0, .ref q36, .ref q37, .ref q38, .int 0, .ref q39])), (q51, .inr (10, [.int 0, .int 0, .int 0, .ref q52, .ref q29, .ref q14, .ref q17, .ref q54, .int 0, .int 0, .ref q55, .ref q56, .ref q57, .ref q58, .ref q59, .ref q60, .ref q61, .int 0, .ref q62, .int 0])), (q52, .inl (c53, 16, .inl (fun _ => 0))), (q64, .inr (15, [.ref q65, .int 0, .int (-1), .int 0, .ref q67, .ref q68, .ref q70, .ref q72, .ref q86])), (q68, .inl (c69, 0, .inr (.inr (.inr (.inr (fun _ => none)))))), (q72, .inr (14, [.ref q73, .int 0, .int 0, .int 0, .null, .ref q75, .ref q76, .ref q77, .ref q78, .ref q79, .int 0, .int 0, .ref q80, .ref q81, .ref q82, .ref q83, .ref q84, .ref q85])), (q73, .inl (c74, 16, .inl (fun _ => 0)))]) (hK : va_K (dC, dI) cls [(c53, .int), (c69, .object RX14), (c74, .int)] s) (hS : va_S A s.heap H locs) {ls : Array Slot} (hl : lv_has ls 9 [(4, .int 0), (3, .ref q87), (2, .ref q64), (1, .ref q1), (0, .ref b)])  : W p l e room_1 s m #[Value.ref b] below meth c H locs 369 122514 (lw_Z below #[Value.ref b] s) (F0 m 2804 ls []) := by
  obtain ⟨hx, hb, hr, hml, hown, hts0, hX, hbl, hlocks, hgv⟩ := id C0
  have hts : ∀ w ∈ gw, w.before #[Value.ref b] s = true := fun w h => hts0 w (gw_tbl h)
  have hbA : ¬ A b := fun h => absurd (hA2 b h) (Nat.not_le.mpr hbl)
  refine lv_aload_n hx hb dL_law_2804 rfl (lv_at hl 3 rfl) ?_
  have hPc := hP.sub (ws' := [(q1, .inr (11, [.ref q2, .ref q5, .ref q14, .ref q15, .ref q16, .ref q17, .ref q51, .ref q63, .ref q29, .ref q40, .int (-1)])), (q29, .inr (2, [.int 0, .ref q30, .ref q31, .ref q32, .ref q33, .ref q34, .ref q35, .int 0, .ref q36, .ref q37, .ref q38, .int 0, .ref q39])), (q51, .inr (10, [.int 0, .int 0, .int 0, .ref q52, .ref q29, .ref q14, .ref q17, .ref q54, .int 0, .int 0, .ref q55, .ref q56, .ref q57, .ref q58, .ref q59, .ref q60, .ref q61, .int 0, .ref q62, .int 0])), (q52, .inl (c53, 16, .inl (fun _ => 0)))]) [0, 1, 2, 3] rfl
  have hDc := hD.sub (ws' := [(q1, .inr (11, [.ref q2, .ref q5, .ref q14, .ref q15, .ref q16, .ref q17, .ref q51, .ref q63, .ref q29, .ref q40, .int (-1)])), (q29, .inr (2, [.int 0, .ref q30, .ref q31, .ref q32, .ref q33, .ref q34, .ref q35, .int 0, .ref q36, .ref q37, .ref q38, .int 0, .ref q39])), (q51, .inr (10, [.int 0, .int 0, .int 0, .ref q52, .ref q29, .ref q14, .ref q17, .ref q54, .int 0, .int 0, .ref q55, .ref q56, .ref q57, .ref q58, .ref q59, .ref q60, .ref q61, .int 0, .ref q62, .int 0])), (q52, .inl (c53, 16, .inl (fun _ => 0)))]) [0, 1, 2, 3] (by decide) rfl
  have hKc := hK.sub (tys' := [(c53, .int)]) [0] rfl
  have hFc := va_free (wc := [(q1, .inr (11, [.ref q2, .ref q5, .ref q14, .ref q15, .ref q16, .ref q17, .ref q51, .ref q63, .ref q29, .ref q40, .int (-1)])), (q29, .inr (2, [.int 0, .ref q30, .ref q31, .ref q32, .ref q33, .ref q34, .ref q35, .int 0, .ref q36, .ref q37, .ref q38, .int 0, .ref q39])), (q51, .inr (10, [.int 0, .int 0, .int 0, .ref q52, .ref q29, .ref q14, .ref q17, .ref q54, .int 0, .int 0, .ref q55, .ref q56, .ref q57, .ref q58, .ref q59, .ref q60, .ref q61, .int 0, .ref q62, .int 0])), (q52, .inl (c53, 16, .inl (fun _ => 0)))]) hD hS hA [0, 1, 2, 3] rfl
  refine va_calll (va_runV (As := []) (rest := []) ⟨hx, hb, hml, hown, hts⟩ (kX11_digest l dC dI (gx := q1) (gq1 := q2) (gq4 := q5) (gq13 := q14) (gq136 := q15) (gq137 := q16) (gq138 := q17) (gq150 := q29) (gq151 := q30) (gq152 := q31) (gq153 := q32) (gq154 := q33) (gq155 := q34) (gq156 := q35) (gq157 := q36) (gq158 := q37) (gq159 := q38) (gq160 := q39) (gq161 := q40) (gq172 := q51) (gq173 := q52) (gc174 := c53) (gq175 := q54) (gq176 := q55) (gq177 := q56) (gq178 := q57) (gq179 := q58) (gq180 := q59) (gq181 := q60) (gq182 := q61) (gq183 := q62) (gq184 := q63) (sz := _)) (cwV 0 hts (gi_V qw989 qw990 qw991 qw222 (gi_z qw988)) rfl rfl rfl (by decide +kernel) ⟨Nat.le_of_ble_eq_true rfl, Nat.le_of_ble_eq_true rfl⟩) ⟨PRE.blind, va_recv hKc hPc (ci := 11) (q0 := 0) rfl rfl, PRE.of hE hS hFc hPc hKc hDc⟩ rfl rfl hl.1 rfl (lv_room (Nat.le_of_ble_eq_true rfl)) dL_law_2805 ⟨Nat.le_of_ble_eq_true rfl, Nat.le_of_ble_eq_true rfl⟩) hS (fun q _ h => hFc q h) hFc (fun r90 u t H locs ht hvm hw hB hz1 hk1 hS => ?_)
  obtain ⟨hP, hD, hK⟩ := JOIN (wr := [(q64, .inr (15, [.ref q65, .int 0, .int (-1), .int 0, .ref q67, .ref q68, .ref q70, .ref q72, .ref q86])), (q68, .inl (c69, 0, .inr (.inr (.inr (.inr (fun _ => none)))))), (q72, .inr (14, [.ref q73, .int 0, .int 0, .int 0, .null, .ref q75, .ref q76, .ref q77, .ref q78, .ref q79, .int 0, .int 0, .ref q80, .ref q81, .ref q82, .ref q83, .ref q84, .ref q85])), (q73, .inl (c74, 16, .inl (fun _ => 0)))]) hP hD hK [0, 1, 2, 3] [4, 5, 6, 7] [1, 2] rfl rfl (by decide) (by decide) rfl hk1 hFc ht hvm hB
  have hP : va_P (dC, dI) cls [(q64, .inr (15, [.ref q65, .int 0, .int (-1), .int 0, .ref q67, .ref q68, .ref q70, .ref q72, .ref q86])), (q68, .inl (c69, 0, .inr (.inr (.inr (.inr (fun _ => none)))))), (q72, .inr (14, [.ref q73, .int 0, .int 0, .int 0, .null, .ref q75, .ref q76, .ref q77, .ref q78, .ref q79, .int 0, .int 0, .ref q80, .ref q81, .ref q82, .ref q83, .ref q84, .ref q85])), (q73, .inl (c74, 16, .inl (fun _ => 0)))] H := hP
  have hD : va_D A [(q64, .inr (15, [.ref q65, .int 0, .int (-1), .int 0, .ref q67, .ref q68, .ref q70, .ref q72, .ref q86])), (q68, .inl (c69, 0, .inr (.inr (.inr (.inr (fun _ => none)))))), (q72, .inr (14, [.ref q73, .int 0, .int 0, .int 0, .null, .ref q75, .ref q76, .ref q77, .ref q78, .ref q79, .int 0, .int 0, .ref q80, .ref q81, .ref q82, .ref q83, .ref q84, .ref q85])), (q73, .inl (c74, 16, .inl (fun _ => 0)))] := hD
  have hK : va_K (dC, dI) cls [(c69, .object RX14), (c74, .int)] s := hK
  refine W.widen (k := 369) (n := 122514) (Nat.le_of_ble_eq_true rfl) (Nat.le_of_ble_eq_true rfl) ?_
  obtain rfl : r90 = (-624062602623119192) := hw
  refine lv_aload_n hx hb dL_law_2808 rfl (lv_at hl 2 rfl) ?_
  have hPc := hP.sub (ws' := [(q64, .inr (15, [.ref q65, .int 0, .int (-1), .int 0, .ref q67, .ref q68, .ref q70, .ref q72, .ref q86])), (q68, .inl (c69, 0, .inr (.inr (.inr (.inr (fun _ => none)))))), (q72, .inr (14, [.ref q73, .int 0, .int 0, .int 0, .null, .ref q75, .ref q76, .ref q77, .ref q78, .ref q79, .int 0, .int 0, .ref q80, .ref q81, .ref q82, .ref q83, .ref q84, .ref q85])), (q73, .inl (c74, 16, .inl (fun _ => 0)))]) [0, 1, 2, 3] rfl
  have hDc := hD.sub (ws' := [(q64, .inr (15, [.ref q65, .int 0, .int (-1), .int 0, .ref q67, .ref q68, .ref q70, .ref q72, .ref q86])), (q68, .inl (c69, 0, .inr (.inr (.inr (.inr (fun _ => none)))))), (q72, .inr (14, [.ref q73, .int 0, .int 0, .int 0, .null, .ref q75, .ref q76, .ref q77, .ref q78, .ref q79, .int 0, .int 0, .ref q80, .ref q81, .ref q82, .ref q83, .ref q84, .ref q85])), (q73, .inl (c74, 16, .inl (fun _ => 0)))]) [0, 1, 2, 3] (by decide) rfl
  have hKc := hK.sub (tys' := [(c69, .object RX14), (c74, .int)]) [0, 1] rfl
  have hFc := va_free (wc := [(q64, .inr (15, [.ref q65, .int 0, .int (-1), .int 0, .ref q67, .ref q68, .ref q70, .ref q72, .ref q86])), (q68, .inl (c69, 0, .inr (.inr (.inr (.inr (fun _ => none)))))), (q72, .inr (14, [.ref q73, .int 0, .int 0, .int 0, .null, .ref q75, .ref q76, .ref q77, .ref q78, .ref q79, .int 0, .int 0, .ref q80, .ref q81, .ref q82, .ref q83, .ref q84, .ref q85])), (q73, .inl (c74, 16, .inl (fun _ => 0)))]) hD hS hA [0, 1, 2, 3] rfl
  refine va_calll (va_runV (As := []) (rest := [.long (-624062602623119192)]) ⟨hx, hb, hml, hown, hts⟩ (kX24_digest l dC dI (mx := q64) (mq1 := q65) (mq3 := q67) (mq4 := q68) (mc5 := c69) (mq6 := q70) (mq8 := q72) (mq9 := q73) (mc10 := c74) (mq11 := q75) (mq12 := q76) (mq13 := q77) (mq14 := q78) (mq15 := q79) (mq16 := q80) (mq17 := q81) (mq18 := q82) (mq19 := q83) (mq20 := q84) (mq21 := q85) (mq22 := q86) (sz := _)) (cwV 0 hts (gi_V qw993 qw994 qw995 qw434 (gi_z qw992)) rfl rfl rfl (by decide +kernel) ⟨Nat.le_of_ble_eq_true rfl, Nat.le_of_ble_eq_true rfl⟩) ⟨PRE.blind, va_recv hKc hPc (ci := 15) (q0 := 0) rfl rfl, PRE.of hE hS hFc hPc hKc hDc⟩ rfl rfl hl.1 rfl (lv_room (Nat.le_of_ble_eq_true rfl)) dL_law_2809 ⟨Nat.le_of_ble_eq_true rfl, Nat.le_of_ble_eq_true rfl⟩) hS (fun q _ h => hFc q h) hFc (fun r91 u t H locs ht hvm hw hB hz1 hk1 hS => ?_)
  obtain ⟨hP, hD, hK⟩ := JOIN (wr := []) hP hD hK [0, 1, 2, 3] [] [] rfl rfl (by decide) (by decide) rfl hk1 hFc ht hvm hB
  have hP : va_P (dC, dI) cls [(q64, .inr (15, [.ref q65, .int 0, .int (-1), .int 0, .ref q67, .ref q68, .ref q70, .ref q72, .ref q86]))] H := hP
  have hD : va_D A [(q64, .inr (15, [.ref q65, .int 0, .int (-1), .int 0, .ref q67, .ref q68, .ref q70, .ref q72, .ref q86]))] := hD
  have hK : va_K (dC, dI) cls [] s := hK
  refine W.widen (k := 370) (n := 122519) (Nat.le_of_ble_eq_true rfl) (Nat.le_of_ble_eq_true rfl) ?_
  obtain rfl : r91 = (-624062602623119192) := hw
  refine W.lcmp hx hb dL_law_2812 ?_
  refine lv_topC (y := 0) (by decide) ?_
  refine lv_if_eq (tgt := 2818) hx hb dL_law_2813 (by decide) (fun _ => ?_) (fun c => absurd (by decide) c)
  refine lv_iinc (v := 7) (lv' := [(4, .int 7), (3, .ref q87), (2, .ref q64), (1, .ref q1), (0, .ref b)]) hx hb dL_law_2818 hl (k := 0) rfl (by decide) (by decide) rfl (fun ls hl => ?_)
  refine lv_goto (tgt := 23) hx hb dL_law_2821 (by decide) ?_
  refine lv_iload hx hb dL_law_23 (lv_at hl 0 rfl) ?_
  refine lv_aload_n hx hb dL_law_25 rfl (lv_at hl 4 rfl) ?_
  refine va_slen hx hb hX hbl hbA hS dL_law_26 ?_
  refine lv_topC (y := 7) rfl ?_
  refine lv_bipush (v := 7) hx hb dL_law_27 (by decide) ?_
  refine lv_isub hx hb dL_law_29 ?_
  refine lv_topC (y := 0) (by decide) ?_
  refine lv_icmp_gt (tgt := 2824) hx hb dL_law_30 (by decide) (fun _ => ?_) (fun c => absurd (by decide) c)
  refine lv_iconst (v := 1) hx hb dL_law_2824 (by decide) ?_
  refine va_forget (fun q hq => hA2 _ (hS.2.2 q hq)) ?_
  refine W.widen (k := 600002) (n := 7302232) (Nat.le_of_ble_eq_true rfl) (Nat.le_of_ble_eq_true rfl) ?_
  exact lw_ret (d0 := s.drawn) (Drawn.sameBut.refl s.drawn lw_cs) hx hb hr hlocks dL_law_2825
