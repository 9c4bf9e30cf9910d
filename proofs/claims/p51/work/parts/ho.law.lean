theorem dL_law_0 : decode cL_law 0 = .ok (.iconst 0, 1) := by decide +kernel
theorem dL_law_1 : decode cL_law 1 = .ok (.istore_n 1, 1) := by decide +kernel
theorem dL_law_2 : decode cL_law 2 = .ok (.iload_n 1, 1) := by decide +kernel
theorem dL_law_3 : decode cL_law 3 = .ok (.iconst 3, 1) := by decide +kernel
theorem dL_law_4 : decode cL_law 4 = .ok (.if_icmp .ge 529, 3) := by decide +kernel
theorem dL_law_527 : decode cL_law 527 = .ok (.iinc 1 1, 3) := by decide +kernel
theorem dL_law_530 : decode cL_law 530 = .ok (.goto (-528), 3) := by decide +kernel
theorem dL_law_533 : decode cL_law 533 = .ok (.iconst 1, 1) := by decide +kernel
set_option maxHeartbeats 16000000 in
set_option maxRecDepth 100000 in
theorem kO (hm9 : MNA4) {p : Program} {l : Launch} {e : Env} {R : Room} {s : State} {m : MethodId} {args : Array Value} {below : List Frame} {meth : Method} {c : Code} {Q : State → Prop} {zs : ZS} {A : Nat → Prop} (hx : p.tables.exec = Jvm.exec) (hb : c.code = cL_law) (hml : c.maxLocals = 18) (hown : s.vm.findClass RLW = some m.cls) (hts : ∀ w ∈ gw, w.before args s = true) {aK aV : Nat → Nat} {aN aO dOv dTv : Nat} {xv xm : Nat} {xf : RI} (hE : ENV (ZP aK aV aN aO dOv dTv (zA (zA zs cl9) (xq9 xv xm xf))) A s s.heap) (hA : ∀ q : Nat, s.heap.size ≤ q → A q) (dC : Nat → ClassId) (dI : Nat → Nat → Nat) (CC SS : Nat) (hr0 : RD9 xm xf 0 CC SS) (hr1 : RD9 xm xf 1 CC SS) (hr2 : RD9 xm xf 2 CC SS) (c0 s0 : Nat) (hRf : 820 ≤ R.frames ∧ 42000 ≤ R.locals) (hRc : c0 + 3 * (2825 + CC) ≤ R.cells) (hRs : s0 + 3 * (144251 + SS) ≤ R.slots) (hkE : ∀ (H : Heap) (locs : List Loc) (ls : Array Slot), va_S A s.heap H locs → W p l e R s m args below meth c H locs (c0 + 3 * (2825 + CC)) (s0 + 3 * (144251 + SS)) Q (F0 m 534 ls [.int 1])) (H : Heap) (locs : List Loc) (ls : Array Slot) (hK : va_K (dC, dI) cls (List.flatten ([] : List (List (ClassId × FieldType)))) s) (hS : va_S A s.heap H locs) (hl : lv_has ls 18 [(0, .ref xv)]) : W p l e R s m args below meth c H locs c0 s0 Q (F0 m 0 ls []) := by
  refine W.widen (k := c0 + 0) (n := s0 + 0) (Nat.le_refl _) (Nat.le_refl _) ?_
  refine lv_iconst (v := 0) hx hb dL_law_0 (by decide) ?_
  refine lv_istore_n (lv' := [(1, .int 0), (0, .ref xv)]) hx hb dL_law_1 rfl hl (by decide) rfl (fun ls hl => ?_)
  refine lv_iload_n hx hb dL_law_2 rfl (lv_at hl 0 rfl) ?_
  refine lv_iconst (v := 3) hx hb dL_law_3 (by decide) ?_
  refine lv_icmp_ge (tgt := 533) hx hb dL_law_4 (by decide) (fun c => absurd c (by decide)) (fun _ => ?_)
  refine kR hm9 hx hb hml hown hts hE hA dC dI 0 CC SS hr0 (c0 + 0) (s0 + 0) hRf (by omega) (by omega) (fun H locs ls hK hS hl => ?_) H locs ls vP_nil vD_nil hK hS (lv_sub hl [1, 0] rfl)
  refine W.widen (k := c0 + 1 * (2825 + CC)) (n := s0 + 1 * (144251 + SS)) (by omega) (by omega) ?_
  refine lv_iinc (v := 1) (lv' := [(1, .int 1), (0, .ref xv)]) hx hb dL_law_527 hl (k := 1) rfl rfl (by decide) rfl (fun ls hl => ?_)
  refine lv_goto (tgt := 2) hx hb dL_law_530 (by decide) ?_
  refine lv_iload_n hx hb dL_law_2 rfl (lv_at hl 0 rfl) ?_
  refine lv_iconst (v := 3) hx hb dL_law_3 (by decide) ?_
  refine lv_icmp_ge (tgt := 533) hx hb dL_law_4 (by decide) (fun c => absurd c (by decide)) (fun _ => ?_)
  refine kR hm9 hx hb hml hown hts hE hA dC dI 1 CC SS hr1 (c0 + 1 * (2825 + CC)) (s0 + 1 * (144251 + SS)) hRf (by omega) (by omega) (fun H locs ls hK hS hl => ?_) H locs ls vP_nil vD_nil hK hS (lv_sub hl [1, 0] rfl)
  refine W.widen (k := c0 + 2 * (2825 + CC)) (n := s0 + 2 * (144251 + SS)) (by omega) (by omega) ?_
  refine lv_iinc (v := 2) (lv' := [(1, .int 2), (0, .ref xv)]) hx hb dL_law_527 hl (k := 1) rfl rfl (by decide) rfl (fun ls hl => ?_)
  refine lv_goto (tgt := 2) hx hb dL_law_530 (by decide) ?_
  refine lv_iload_n hx hb dL_law_2 rfl (lv_at hl 0 rfl) ?_
  refine lv_iconst (v := 3) hx hb dL_law_3 (by decide) ?_
  refine lv_icmp_ge (tgt := 533) hx hb dL_law_4 (by decide) (fun c => absurd c (by decide)) (fun _ => ?_)
  refine kR hm9 hx hb hml hown hts hE hA dC dI 2 CC SS hr2 (c0 + 2 * (2825 + CC)) (s0 + 2 * (144251 + SS)) hRf (by omega) (by omega) (fun H locs ls hK hS hl => ?_) H locs ls vP_nil vD_nil hK hS (lv_sub hl [1, 0] rfl)
  refine W.widen (k := c0 + 3 * (2825 + CC)) (n := s0 + 3 * (144251 + SS)) (by omega) (by omega) ?_
  refine lv_iinc (v := 3) (lv' := [(1, .int 3), (0, .ref xv)]) hx hb dL_law_527 hl (k := 1) rfl rfl (by decide) rfl (fun ls hl => ?_)
  refine lv_goto (tgt := 2) hx hb dL_law_530 (by decide) ?_
  refine lv_iload_n hx hb dL_law_2 rfl (lv_at hl 0 rfl) ?_
  refine lv_iconst (v := 3) hx hb dL_law_3 (by decide) ?_
  refine lv_icmp_ge (tgt := 533) hx hb dL_law_4 (by decide) (fun _ => ?_) (fun c => absurd c (by decide))
  refine lv_iconst (v := 1) hx hb dL_law_533 (by decide) ?_
  exact hkE H locs ls hS
