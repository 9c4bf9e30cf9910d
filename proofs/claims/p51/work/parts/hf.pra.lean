theorem dX13_print_0 : decode cX13_print 0 = .ok (.aload_n 1, 1) := by decide +kernel
theorem dX13_print_1 : decode cX13_print 1 = .ok (.astore_n 2, 1) := by decide +kernel
theorem dX13_print_2 : decode cX13_print 2 = .ok (.aload_n 2, 1) := by decide +kernel
theorem dX13_print_3 : decode cX13_print 3 = .ok (.arraylength, 1) := by decide +kernel
theorem dX13_print_4 : decode cX13_print 4 = .ok (.istore_n 3, 1) := by decide +kernel
theorem dX13_print_5 : decode cX13_print 5 = .ok (.iconst 0, 1) := by decide +kernel
theorem dX13_print_6 : decode cX13_print 6 = .ok (.istore 4, 2) := by decide +kernel
theorem dX13_print_8 : decode cX13_print 8 = .ok (.iload 4, 2) := by decide +kernel
theorem dX13_print_10 : decode cX13_print 10 = .ok (.iload_n 3, 1) := by decide +kernel
theorem dX13_print_11 : decode cX13_print 11 = .ok (.if_icmp .ge 21, 3) := by decide +kernel
theorem dX13_print_14 : decode cX13_print 14 = .ok (.aload_n 2, 1) := by decide +kernel
theorem dX13_print_15 : decode cX13_print 15 = .ok (.iload 4, 2) := by decide +kernel
theorem dX13_print_17 : decode cX13_print 17 = .ok (.aaload, 1) := by decide +kernel
theorem dX13_print_18 : decode cX13_print 18 = .ok (.astore 5, 2) := by decide +kernel
theorem dX13_print_20 : decode cX13_print 20 = .ok (.aload_n 0, 1) := by decide +kernel
theorem dX13_print_21 : decode cX13_print 21 = .ok (.aload 5, 2) := by decide +kernel
theorem dX13_print_23 : decode cX13_print 23 = .ok (.invokevirtual 108, 3) := by decide +kernel
theorem dX13_print_26 : decode cX13_print 26 = .ok (.iinc 4 1, 3) := by decide +kernel
theorem dX13_print_29 : decode cX13_print 29 = .ok (.goto (-21), 3) := by decide +kernel
theorem dX13_print_32 : decode cX13_print 32 = .ok (.return_, 1) := by decide +kernel
theorem qw1632 : Cond.instanceMethod yX13_print_ ∈ gw := mq_10 (i := 187) rfl rfl
theorem qw1633 : Cond.selects RX13 yX13_print_ yX13_print_ ∈ gw := mq_10 (i := 188) rfl rfl
theorem qw1634 : Cond.code yX13_print_ cX13_print_ 2 (Option.none : Option Jvm.ClassFile.FieldType) ∈ gw := mq_10 (i := 189) rfl rfl
theorem qw1635 : Cond.methodLink RX13 108 yX13_print_ ∈ gw := mq_10 (i := 186) rfl rfl
/-- pieces one behind the other -/
def cat9 (g : Nat → List Int32) : Nat → List Int32
  | 0 => []
  | n + 1 => cat9 g n ++ g n
theorem cat9_le {g : Nat → List Int32} {i n : Nat} (h : i ≤ n) : (cat9 g i).length ≤ (cat9 g n).length := by
  induction n with
  | zero => obtain rfl : i = 0 := by omega
            exact Nat.le_refl _
  | succ n ih =>
    rcases Nat.lt_or_ge n i with c | c
    · obtain rfl : i = n + 1 := by omega
      exact Nat.le_refl _
    · have h1 := ih c
      have h2 : (cat9 g (n + 1)).length = (cat9 g n).length + (g n).length := List.length_append
      omega
theorem cat9_c {g g' : Nat → List Int32} : ∀ {n : Nat}, (∀ i, i < n → g i = g' i) → cat9 g n = cat9 g' n := by
  intro n
  induction n with
  | zero => intro _; rfl
  | succ n ih => intro h; show cat9 g n ++ g n = cat9 g' n ++ g' n; rw [ih (fun i hi => h i (Nat.lt_succ_of_lt hi)), h n (Nat.lt_succ_self n)]
theorem rw9_fn {P : Nat → List Int32 → Prop} {f : Nat → Option Nat} : ∀ {n : Nat} {bs : List Int32}, rw9 P f n bs → ∃ (r : Nat → Nat) (g : Nat → List Int32), (∀ i, i < n → f i = some (r i) ∧ P (r i) (g i)) ∧ bs = cat9 g n := by
  intro n
  induction n with
  | zero => intro bs h; exact ⟨fun _ => 0, fun _ => [], fun i hi => absurd hi (Nat.not_lt_zero _), h⟩
  | succ n ih =>
    intro bs h
    obtain ⟨b1, b2, q, h1, h2, h3, h4⟩ := h
    obtain ⟨r, g, k1, k2⟩ := ih h1
    refine ⟨fun i => if i = n then q else r i, fun i => if i = n then b2 else g i, fun i hi => ?_, ?_⟩
    · by_cases e : i = n
      · subst e
        show f i = some (if i = i then q else r i) ∧ P (if i = i then q else r i) (if i = i then b2 else g i)
        rw [if_pos rfl, if_pos rfl]
        exact ⟨h2, h3⟩
      · show f i = some (if i = n then q else r i) ∧ P (if i = n then q else r i) (if i = n then b2 else g i)
        rw [if_neg e, if_neg e]
        exact k1 i (by omega)
    · show bs = cat9 _ n ++ (if n = n then b2 else g n)
      rw [if_pos rfl, h4, k2, cat9_c (g := g) (g' := fun i => if i = n then b2 else g i) (fun i hi => by show g i = if i = n then b2 else g i; rw [if_neg (by omega)])]
set_option maxHeartbeats 16000000 in
set_option maxRecDepth 100000 in
theorem kX13_pa_s (l : Launch) (aK aV : Nat → Nat) (aN aO dOv dTv : Nat) (Wt : va_W) (Tt : List (ClassId × FieldType)) (F9 L9 D9 : Nat) (ihL : ∀ (r : Nat) (bs : List Int32), lh9 Wt Tt D9 r bs → PR9 l aK aV aN aO dOv dTv yX13_print_ (wz yX13_print_ cX13_print_ 2 (Option.none : Option Jvm.ClassFile.FieldType)) F9 L9 Wt Tt (.ref r) bs) (r n : Nat) (bs : List Int32) (har : ar9 Wt Tt (lh9 Wt Tt D9) r n bs) : PR9 l aK aV aN aO dOv dTv yX13_print (wz yX13_print cX13_print 6 (Option.none : Option Jvm.ClassFile.FieldType)) (F9 + 8) (L9 + 400) Wt Tt (.ref r) bs := by
  intro zs dC dI p0a p0w t ta tk tn tw sz hsb hL
  refine Met.ofW (cc := cX13_print) (maxL := 6) (ret := (Option.none : Option Jvm.ClassFile.FieldType)) (by decide) rfl ?_
  intro p e s m args below meth c s₁ B hml hv
  obtain ⟨rfl, hsz, hP, hK, hD0, hE⟩ := hv
  have hx := B.exec
  have hb := B.bytes
  have hr := B.returns
  have hts0 := atoms_spec (ws := wz yX13_print cX13_print 6 (Option.none : Option Jvm.ClassFile.FieldType)) B.pre
  have hts : ∀ w ∈ gw, w.before _ s = true := fun w h => hts0 w (List.mem_cons_of_mem _ h)
  have hown : s.vm.findClass RX13 = some m.cls := findClass_of_methodNamed B.named
  subst hsz
  have hD := hD0.self (sz := s.heap.size)
  refine gQ9 ?_
  intro Q hQ
  generalize hAe : va_A (List.flatten ([mdO p0a p0w, oJ4 (p0a 6) ta tk tn tw, Wt] : List va_W)) s.heap.size = A at hD hE hQ
  have hA : ∀ q : Nat, s.heap.size ≤ q → A q := fun q h => by rw [← hAe]; exact Or.inr h
  have hS : va_S A s.heap s.heap [] := va_S.rf
  have hP : va_P (dC, dI) cls (List.flatten ([mdO p0a p0w, oJ4 (p0a 6) ta tk tn tw, Wt] : List va_W)) s.heap := hP
  have hl := lv_entry ([.ref (p0a 0), .ref r]) (n := 6) (Nat.le_of_ble_eq_true rfl)
  rw [lg_entry_eq]
  generalize (lg_sl ([.ref (p0a 0), .ref r]) ++ List.replicate (6 - (lg_sl ([.ref (p0a 0), .ref r])).length) Slot.unset).toArray = ls at hl ⊢
  have hl : lv_has ls 6 [(0, .ref (p0a 0)), (1, .ref r)] := hl
  obtain ⟨H, hHe⟩ : ∃ H, H = s.heap := ⟨_, rfl⟩
  obtain ⟨locs, hle⟩ : ∃ locs : List Loc, locs = [] := ⟨_, rfl⟩
  rw [← hHe] at hP
  have hS : va_S A s.heap H locs := by rw [hHe, hle]; exact hS
  have hR9 : 6 ≤ F9 + 8 ∧ 140 ≤ L9 + 400 ∧ 0 + pcl t.length bs.length ≤ pcl t.length bs.length ∧ 0 + psl t.length bs.length ≤ psl t.length bs.length := ⟨by omega, by omega, Nat.le_of_eq (Nat.zero_add _), Nat.le_of_eq (Nat.zero_add _)⟩
  show W p l e ({ frames := F9 + 8, cells := pcl t.length bs.length, slots := psl t.length bs.length, locals := L9 + 400 } : Room) s m ([.ref (p0a 0), .ref r] : List Value).toArray below meth c s.heap [] 0 0 Q (F0 m 0 ls [])
  rw [← hle]
  refine wH9 hHe ?_
  refine W.widen (k := 0 + pcl t.length 0) (n := 0 + psl t.length 0) (Nat.zero_le _) (Nat.zero_le _) ?_
  have hT : TXS dC dI A p0a p0w Wt Tt t s H locs := ⟨ta, tk, tn, tw, hP, hD, hK, hS, hsb⟩
  clear hP hD hK hS
  obtain ⟨k9, f9, hr9, hty9, h6, hrw⟩ := har
  obtain ⟨rr, gg, hg, hbs⟩ := rw9_fn hrw
  refine lv_aload_n hx hb dX13_print_0 rfl (lv_at hl 1 rfl) ?_
  refine lv_astore_n (lv' := [(2, .ref r), (0, .ref (p0a 0)), (1, .ref r)]) hx hb dX13_print_1 rfl hl (by decide) rfl (fun ls hl => ?_)
  refine lv_aload_n hx hb dX13_print_2 rfl (lv_at hl 0 rfl) ?_
  have hT9 := hT
  obtain ⟨ta1, tk1, tn1, tw1, hP, hD, hK, hS, hsb1⟩ := hT9
  obtain ⟨j0, hj0⟩ := List.getElem?_of_mem (fl_mem (L := ([mdO p0a p0w, oJ4 (p0a 6) ta1 tk1 tn1 tw1, Wt] : List va_W)) 2 rfl hr9)
  obtain ⟨i0, hi0⟩ := List.getElem?_of_mem (fl_mem (L := ([[], tJ4 tk1, Tt] : List (List (ClassId × FieldType)))) 2 rfl hty9)
  refine va_alen (v := Int32.ofNat n) hx hb hK hP j0 i0 hj0 hi0 rfl dX13_print_3 ?_
  refine lv_istore_n (lv' := [(3, .int (Int32.ofNat n)), (2, .ref r), (0, .ref (p0a 0)), (1, .ref r)]) hx hb dX13_print_4 rfl hl (by decide) rfl (fun ls hl => ?_)
  refine lv_iconst (v := 0) hx hb dX13_print_5 (by decide) ?_
  refine lv_istore (lv' := [(4, .int 0), (3, .int (Int32.ofNat n)), (2, .ref r), (0, .ref (p0a 0)), (1, .ref r)]) hx hb dX13_print_6 hl (by decide) rfl (fun ls hl => ?_)
  have loop : ∀ (R9 I : Nat) (H : Heap) (locs : List Loc) (ls : Array Slot), I + R9 = n → TXS dC dI A p0a p0w Wt Tt (t ++ cat9 gg I) s H locs → lv_has ls 6 [(4, .int (Int32.ofNat I)), (3, .int (Int32.ofNat n)), (2, .ref r), (0, .ref (p0a 0)), (1, .ref r)] → W p l e ({ frames := F9 + 8, cells := pcl t.length bs.length, slots := psl t.length bs.length, locals := L9 + 400 } : Room) s m ([.ref (p0a 0), .ref r] : List Value).toArray below meth c H locs (0 + pcl t.length (cat9 gg I).length) (0 + psl t.length (cat9 gg I).length) Q (F0 m 8 ls []) := by
    intro R9
    induction R9 with
    | zero =>
      intro I H locs ls hI hT hl
      obtain rfl : I = n := hI
      refine lv_iload hx hb dX13_print_8 (lv_at hl 0 rfl) ?_
      refine lv_iload_n hx hb dX13_print_10 rfl (lv_at hl 1 rfl) ?_
      refine lv_icmp_ge (tgt := 32) hx hb dX13_print_11 (by decide) (fun _ => ?_) (fun c => absurd (Int32.le_refl _) c)
      obtain ⟨ta1, tk1, tn1, tw1, hP, hD, hK, hS, hsb1⟩ := hT
      rw [← hbs] at hsb1
      subst hQ
      refine W.widen (k := pcl t.length bs.length) (n := psl t.length bs.length) (by rw [← hbs]; exact Nat.le_of_eq (Nat.zero_add _)) (by rw [← hbs]; exact Nat.le_of_eq (Nat.zero_add _)) ?_
      exact W.vret hx hb hr (fun u ht hW => ⟨⟨(), rfl, trivial, ta1, tk1, tn1, tw1, hsb1, by rw [ht]; exact hP, va_K.moved hW.alike hK, hD⟩, hS.F ht⟩) hS.2.2 dX13_print_32
    | succ R9 ih =>
      intro I H locs ls hI hT hl
      have hIn : I < n := by omega
      have hlen : (cat9 gg (I + 1)).length = (cat9 gg I).length + (gg I).length := List.length_append
      have hle9 : (cat9 gg (I + 1)).length ≤ bs.length := by rw [hbs]; exact cat9_le hIn
      have hc : ¬ Int32.ofNat n ≤ Int32.ofNat I := fun e => by have h8 := (pu_le (a := n) (b := I) (by omega) (by omega)).mp e; omega
      refine lv_iload hx hb dX13_print_8 (lv_at hl 0 rfl) ?_
      refine lv_iload_n hx hb dX13_print_10 rfl (lv_at hl 1 rfl) ?_
      refine lv_icmp_ge (tgt := 32) hx hb dX13_print_11 (by decide) (fun c => absurd c hc) (fun _ => ?_)
      refine lv_aload_n hx hb dX13_print_14 rfl (lv_at hl 2 rfl) ?_
      refine lv_iload hx hb dX13_print_15 (lv_at hl 0 rfl) ?_
      have hT9 := hT
      obtain ⟨ta1, tk1, tn1, tw1, hP, hD, hK, hS, hsb1⟩ := hT9
      obtain ⟨j0, hj0⟩ := List.getElem?_of_mem (fl_mem (L := ([mdO p0a p0w, oJ4 (p0a 6) ta1 tk1 tn1 tw1, Wt] : List va_W)) 2 rfl hr9)
      obtain ⟨i0, hi0⟩ := List.getElem?_of_mem (fl_mem (L := ([[], tJ4 tk1, Tt] : List (List (ClassId × FieldType)))) 2 rfl hty9)
      refine va_aldq hx hb hK hP j0 i0 hj0 hi0 (ixb_in ((pu_ix (k := I) (by omega)).mpr hIn)) dX13_print_17 ?_
      have hv : va_rf (f9 (Int32.ofNat I).toNatClampNeg) = .ref (rr I) := by rw [show (Int32.ofNat I).toNatClampNeg = I from pu_nn (by omega), (hg I hIn).1]; rfl
      rw [hv]
      refine lv_astore (lv' := [(5, .ref (rr I)), (4, .int (Int32.ofNat I)), (3, .int (Int32.ofNat n)), (2, .ref r), (0, .ref (p0a 0)), (1, .ref r)]) hx hb dX13_print_18 hl (by decide) rfl (fun ls hl => ?_)
      refine lv_aload_n hx hb dX13_print_20 rfl (lv_at hl 4 rfl) ?_
      refine lv_aload hx hb dX13_print_21 (lv_at hl 0 rfl) ?_
      refine tx_pr (l := l) (b := (cat9 gg I).length) (t0 := t.length) (N := bs.length) ⟨hx, hb, hml, hown, hts⟩ hE hA hT (ihL _ _ (hg I hIn).2) (fun _ _ => cwV 1 hts (gi_V qw1635 qw1632 qw1633 qw1566 (gi_z qw1634)) rfl rfl rfl (by decide +kernel) ⟨rmF9, rmL9 (n := 21) (Nat.le_of_ble_eq_true rfl)⟩) List.length_append (by omega) hL hR9.2.2 dX13_print_23 hl.1 (Nat.le_of_ble_eq_true rfl) (fun H locs hT => ?_)
      refine lv_iinc (v := (Int32.ofNat I + 1)) (lv' := [(4, .int (Int32.ofNat I + 1)), (5, .ref (rr I)), (3, .int (Int32.ofNat n)), (2, .ref r), (0, .ref (p0a 0)), (1, .ref r)]) hx hb dX13_print_26 hl (k := 1) rfl rfl (by decide) rfl (fun ls hl => ?_)
      have e1 : Int32.ofNat I + 1 = Int32.ofNat (I + 1) := pu_su I
      rw [e1] at hl
      refine lv_goto (tgt := 8) hx hb dX13_print_29 (by decide) ?_
      rw [← hlen]
      rw [List.append_assoc] at hT
      exact ih (I + 1) H locs ls (by omega) hT (lv_sub hl [0, 2, 3, 4, 5] rfl)
  refine loop n 0 _ _ _ (by omega) (by show TXS dC dI A p0a p0w Wt Tt (t ++ []) s _ _; rw [List.append_nil]; exact hT) hl
def pLf : Nat → Nat
  | 0 => 0
  | D + 1 => pLf D + 8 + 40
def pLl : Nat → Nat
  | 0 => 0
  | D + 1 => pLl D + 400 + 2000
theorem kX13_pl (l : Launch) (aK aV : Nat → Nat) (aN aO dOv dTv : Nat) (Wt : va_W) (Tt : List (ClassId × FieldType)) : ∀ (D r : Nat) (bs : List Int32), lh9 Wt Tt D r bs → PR9 l aK aV aN aO dOv dTv yX13_print_ (wz yX13_print_ cX13_print_ 2 (Option.none : Option Jvm.ClassFile.FieldType)) (pLf D) (pLl D) Wt Tt (.ref r) bs := by
  intro D
  induction D with
  | zero => intro r bs h; exact h.elim
  | succ D ih => exact fun r bs h => kX13_pl_s l aK aV aN aO dOv dTv Wt Tt (pLf D + 8) (pLl D + 400) D (kX13_pa_s l aK aV aN aO dOv dTv Wt Tt (pLf D) (pLl D) D ih) r bs h
