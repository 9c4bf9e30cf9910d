abbrev cX13_print__ : ByteArray := prog_15_method_8_code
def yX13_print__ : MethodName := ⟨RX13, "print", "(LGearboxLaw$Part;)V"⟩
theorem dX13_print___0 : decode cX13_print__ 0 = .ok (.aload_n 1, 1) := by decide +kernel
theorem dX13_print___1 : decode cX13_print__ 1 = .ok (.getfield 149, 3) := by decide +kernel
theorem dX13_print___4 : decode cX13_print__ 4 = .ok (.tableswitch 157 0 7 #[48, 63, 157, 82, 82, 157, 157, 126], 48) := by decide +kernel
theorem dX13_print___52 : decode cX13_print__ 52 = .ok (.aload_n 0, 1) := by decide +kernel
theorem dX13_print___53 : decode cX13_print__ 53 = .ok (.getfield 16, 3) := by decide +kernel
theorem dX13_print___56 : decode cX13_print__ 56 = .ok (.aload_n 1, 1) := by decide +kernel
theorem dX13_print___57 : decode cX13_print__ 57 = .ok (.getfield 150, 3) := by decide +kernel
theorem dX13_print___60 : decode cX13_print__ 60 = .ok (.invokevirtual 134, 3) := by decide +kernel
theorem dX13_print___63 : decode cX13_print__ 63 = .ok (.pop, 1) := by decide +kernel
theorem dX13_print___64 : decode cX13_print__ 64 = .ok (.goto 175, 3) := by decide +kernel
theorem dX13_print___67 : decode cX13_print__ 67 = .ok (.aload_n 0, 1) := by decide +kernel
theorem dX13_print___68 : decode cX13_print__ 68 = .ok (.getfield 16, 3) := by decide +kernel
theorem dX13_print___71 : decode cX13_print__ 71 = .ok (.getstatic 111, 3) := by decide +kernel
theorem dX13_print___74 : decode cX13_print__ 74 = .ok (.aload_n 1, 1) := by decide +kernel
theorem dX13_print___75 : decode cX13_print__ 75 = .ok (.getfield 150, 3) := by decide +kernel
theorem dX13_print___78 : decode cX13_print__ 78 = .ok (.aaload, 1) := by decide +kernel
theorem dX13_print___79 : decode cX13_print__ 79 = .ok (.invokevirtual 47, 3) := by decide +kernel
theorem dX13_print___82 : decode cX13_print__ 82 = .ok (.pop, 1) := by decide +kernel
theorem dX13_print___83 : decode cX13_print__ 83 = .ok (.goto 156, 3) := by decide +kernel
theorem dX13_print___86 : decode cX13_print__ 86 = .ok (.aload_n 0, 1) := by decide +kernel
theorem dX13_print___87 : decode cX13_print__ 87 = .ok (.getfield 16, 3) := by decide +kernel
theorem dX13_print___90 : decode cX13_print__ 90 = .ok (.aload_n 1, 1) := by decide +kernel
theorem dX13_print___91 : decode cX13_print__ 91 = .ok (.getfield 149, 3) := by decide +kernel
theorem dX13_print___94 : decode cX13_print__ 94 = .ok (.iconst 3, 1) := by decide +kernel
theorem dX13_print___95 : decode cX13_print__ 95 = .ok (.if_icmp .ne 8, 3) := by decide +kernel
theorem dX13_print___98 : decode cX13_print__ 98 = .ok (.ldc 151, 2) := by decide +kernel
theorem dX13_print___100 : decode cX13_print__ 100 = .ok (.goto 5, 3) := by decide +kernel
theorem dX13_print___103 : decode cX13_print__ 103 = .ok (.ldc 153, 2) := by decide +kernel
theorem dX13_print___105 : decode cX13_print__ 105 = .ok (.invokevirtual 47, 3) := by decide +kernel
theorem dX13_print___108 : decode cX13_print__ 108 = .ok (.pop, 1) := by decide +kernel
theorem dX13_print___109 : decode cX13_print__ 109 = .ok (.aload_n 0, 1) := by decide +kernel
theorem dX13_print___110 : decode cX13_print__ 110 = .ok (.aload_n 1, 1) := by decide +kernel
theorem dX13_print___111 : decode cX13_print__ 111 = .ok (.getfield 155, 3) := by decide +kernel
theorem dX13_print___114 : decode cX13_print__ 114 = .ok (.invokevirtual 117, 3) := by decide +kernel
theorem dX13_print___117 : decode cX13_print__ 117 = .ok (.aload_n 0, 1) := by decide +kernel
theorem dX13_print___118 : decode cX13_print__ 118 = .ok (.getfield 16, 3) := by decide +kernel
theorem dX13_print___121 : decode cX13_print__ 121 = .ok (.ldc 158, 2) := by decide +kernel
theorem dX13_print___123 : decode cX13_print__ 123 = .ok (.invokevirtual 47, 3) := by decide +kernel
theorem dX13_print___126 : decode cX13_print__ 126 = .ok (.pop, 1) := by decide +kernel
theorem dX13_print___127 : decode cX13_print__ 127 = .ok (.goto 112, 3) := by decide +kernel
theorem dX13_print___130 : decode cX13_print__ 130 = .ok (.aload_n 0, 1) := by decide +kernel
theorem dX13_print___131 : decode cX13_print__ 131 = .ok (.getfield 16, 3) := by decide +kernel
theorem dX13_print___134 : decode cX13_print__ 134 = .ok (.ldc 122, 2) := by decide +kernel
theorem dX13_print___136 : decode cX13_print__ 136 = .ok (.invokevirtual 47, 3) := by decide +kernel
theorem dX13_print___139 : decode cX13_print__ 139 = .ok (.pop, 1) := by decide +kernel
theorem dX13_print___140 : decode cX13_print__ 140 = .ok (.aload_n 0, 1) := by decide +kernel
theorem dX13_print___141 : decode cX13_print__ 141 = .ok (.aload_n 1, 1) := by decide +kernel
theorem dX13_print___142 : decode cX13_print__ 142 = .ok (.getfield 155, 3) := by decide +kernel
theorem dX13_print___145 : decode cX13_print__ 145 = .ok (.invokevirtual 117, 3) := by decide +kernel
theorem dX13_print___148 : decode cX13_print__ 148 = .ok (.aload_n 0, 1) := by decide +kernel
theorem dX13_print___149 : decode cX13_print__ 149 = .ok (.getfield 16, 3) := by decide +kernel
theorem dX13_print___152 : decode cX13_print__ 152 = .ok (.ldc 160, 2) := by decide +kernel
theorem dX13_print___154 : decode cX13_print__ 154 = .ok (.invokevirtual 47, 3) := by decide +kernel
theorem dX13_print___157 : decode cX13_print__ 157 = .ok (.pop, 1) := by decide +kernel
theorem dX13_print___158 : decode cX13_print__ 158 = .ok (.goto 81, 3) := by decide +kernel
theorem dX13_print___161 : decode cX13_print__ 161 = .ok (.aload_n 0, 1) := by decide +kernel
theorem dX13_print___162 : decode cX13_print__ 162 = .ok (.getfield 16, 3) := by decide +kernel
theorem dX13_print___165 : decode cX13_print__ 165 = .ok (.ldc 162, 2) := by decide +kernel
theorem dX13_print___167 : decode cX13_print__ 167 = .ok (.invokevirtual 47, 3) := by decide +kernel
theorem dX13_print___170 : decode cX13_print__ 170 = .ok (.pop, 1) := by decide +kernel
theorem dX13_print___171 : decode cX13_print__ 171 = .ok (.aload_n 0, 1) := by decide +kernel
theorem dX13_print___172 : decode cX13_print__ 172 = .ok (.aload_n 1, 1) := by decide +kernel
theorem dX13_print___173 : decode cX13_print__ 173 = .ok (.getfield 155, 3) := by decide +kernel
theorem dX13_print___176 : decode cX13_print__ 176 = .ok (.invokevirtual 117, 3) := by decide +kernel
theorem dX13_print___179 : decode cX13_print__ 179 = .ok (.aload_n 0, 1) := by decide +kernel
theorem dX13_print___180 : decode cX13_print__ 180 = .ok (.getfield 16, 3) := by decide +kernel
theorem dX13_print___183 : decode cX13_print__ 183 = .ok (.aload_n 1, 1) := by decide +kernel
theorem dX13_print___184 : decode cX13_print__ 184 = .ok (.getfield 149, 3) := by decide +kernel
theorem dX13_print___187 : decode cX13_print__ 187 = .ok (.iconst 2, 1) := by decide +kernel
theorem dX13_print___188 : decode cX13_print__ 188 = .ok (.if_icmp .ne 14, 3) := by decide +kernel
theorem dX13_print___191 : decode cX13_print__ 191 = .ok (.getstatic 164, 3) := by decide +kernel
theorem dX13_print___194 : decode cX13_print__ 194 = .ok (.aload_n 1, 1) := by decide +kernel
theorem dX13_print___195 : decode cX13_print__ 195 = .ok (.getfield 150, 3) := by decide +kernel
theorem dX13_print___198 : decode cX13_print__ 198 = .ok (.aaload, 1) := by decide +kernel
theorem dX13_print___199 : decode cX13_print__ 199 = .ok (.goto 18, 3) := by decide +kernel
theorem dX13_print___202 : decode cX13_print__ 202 = .ok (.aload_n 1, 1) := by decide +kernel
theorem dX13_print___203 : decode cX13_print__ 203 = .ok (.getfield 149, 3) := by decide +kernel
theorem dX13_print___206 : decode cX13_print__ 206 = .ok (.iconst 5, 1) := by decide +kernel
theorem dX13_print___207 : decode cX13_print__ 207 = .ok (.if_icmp .ne 8, 3) := by decide +kernel
theorem dX13_print___210 : decode cX13_print__ 210 = .ok (.ldc 167, 2) := by decide +kernel
theorem dX13_print___212 : decode cX13_print__ 212 = .ok (.goto 5, 3) := by decide +kernel
theorem dX13_print___215 : decode cX13_print__ 215 = .ok (.ldc 169, 2) := by decide +kernel
theorem dX13_print___217 : decode cX13_print__ 217 = .ok (.invokevirtual 47, 3) := by decide +kernel
theorem dX13_print___220 : decode cX13_print__ 220 = .ok (.pop, 1) := by decide +kernel
theorem dX13_print___221 : decode cX13_print__ 221 = .ok (.aload_n 0, 1) := by decide +kernel
theorem dX13_print___222 : decode cX13_print__ 222 = .ok (.aload_n 1, 1) := by decide +kernel
theorem dX13_print___223 : decode cX13_print__ 223 = .ok (.getfield 171, 3) := by decide +kernel
theorem dX13_print___226 : decode cX13_print__ 226 = .ok (.invokevirtual 117, 3) := by decide +kernel
theorem dX13_print___229 : decode cX13_print__ 229 = .ok (.aload_n 0, 1) := by decide +kernel
theorem dX13_print___230 : decode cX13_print__ 230 = .ok (.getfield 16, 3) := by decide +kernel
theorem dX13_print___233 : decode cX13_print__ 233 = .ok (.ldc 158, 2) := by decide +kernel
theorem dX13_print___235 : decode cX13_print__ 235 = .ok (.invokevirtual 47, 3) := by decide +kernel
theorem dX13_print___238 : decode cX13_print__ 238 = .ok (.pop, 1) := by decide +kernel
theorem dX13_print___239 : decode cX13_print__ 239 = .ok (.return_, 1) := by decide +kernel
theorem qw1617 : Cond.fieldLink RX13 149 "GearboxLaw$Part" "sort" "I" ∈ gw := mq_10 (i := 164) rfl rfl
theorem qw1618 : Cond.fieldLink RX13 16 "GearboxLaw$Made" "text" "Ljava/lang/StringBuilder;" ∈ gw := mq_10 (i := 226) rfl rfl
theorem qw1619 : Cond.fieldLink RX13 150 "GearboxLaw$Part" "n" "I" ∈ gw := mq_10 (i := 166) rfl rfl
theorem qw1620 : Cond.fieldLink RX13 111 "GearboxLaw$Made" "NAMES" "[Ljava/lang/String;" ∈ gw := mq_10 (i := 190) rfl rfl
theorem qw1621 : Cond.fieldLink RX13 155 "GearboxLaw$Part" "left" "LGearboxLaw$Part;" ∈ gw := mq_10 (i := 168) rfl rfl
theorem qw1622 : Cond.instanceMethod yX13_print__ ∈ gw := mq_10 (i := 194) rfl rfl
theorem qw1623 : Cond.selects RX13 yX13_print__ yX13_print__ ∈ gw := mq_10 (i := 195) rfl rfl
theorem qw1624 : Cond.code yX13_print__ cX13_print__ 2 (Option.none : Option Jvm.ClassFile.FieldType) ∈ gw := mq_10 (i := 196) rfl rfl
theorem qw1625 : Cond.methodLink RX13 117 yX13_print__ ∈ gw := mq_10 (i := 193) rfl rfl
theorem qw1626 : Cond.fieldLink RX13 164 "GearboxLaw$Made" "OPS" "[Ljava/lang/String;" ∈ gw := mq_10 (i := 204) rfl rfl
theorem qw1627 : Cond.fieldLink RX13 171 "GearboxLaw$Part" "right" "LGearboxLaw$Part;" ∈ gw := mq_10 (i := 170) rfl rfl
set_option maxHeartbeats 16000000 in
set_option maxRecDepth 100000 in
theorem kX13_pp_s (l : Launch) (aK aV : Nat → Nat) (aN aO dOv dTv : Nat) (Wt : va_W) (Tt : List (ClassId × FieldType)) (F9 L9 D9 : Nat) (ih : ∀ (r : Nat) (bs : List Int32), ph9 Wt D9 r bs → PR9 l aK aV aN aO dOv dTv yX13_print__ (wz yX13_print__ cX13_print__ 2 (Option.none : Option Jvm.ClassFile.FieldType)) F9 L9 Wt Tt (.ref r) bs) (r : Nat) (bs : List Int32) (hph : ph9 Wt (D9 + 1) r bs) : PR9 l aK aV aN aO dOv dTv yX13_print__ (wz yX13_print__ cX13_print__ 2 (Option.none : Option Jvm.ClassFile.FieldType)) (F9 + 8) (L9 + 400) Wt Tt (.ref r) bs := by
  intro zs dC dI p0a p0w t ta tk tn tw sz hsb hL
  refine Met.ofW (cc := cX13_print__) (maxL := 2) (ret := (Option.none : Option Jvm.ClassFile.FieldType)) (by decide) rfl ?_
  intro p e s m args below meth c s₁ B hml hv
  obtain ⟨rfl, hsz, hP, hK, hD0, hE⟩ := hv
  have hx := B.exec
  have hb := B.bytes
  have hr := B.returns
  have hts0 := atoms_spec (ws := wz yX13_print__ cX13_print__ 2 (Option.none : Option Jvm.ClassFile.FieldType)) B.pre
  have hts : ∀ w ∈ gw, w.before _ s = true := fun w h => hts0 w (List.mem_cons_of_mem _ h)
  have hown : s.vm.findClass RX13 = some m.cls := findClass_of_methodNamed B.named
  subst hsz
  have hD := hD0.self (sz := s.heap.size)
  refine gQ9 ?_
  intro Q hQ
  generalize hAe : va_A (List.flatten ([mdO p0a p0w, oJ4 (p0a 6) ta tk tn tw, Wt] : List va_W)) s.heap.size = A at hD hE hQ
  have hA : ∀ q : Nat, s.heap.size ≤ q → A q := fun q h => by rw [← hAe]; exact Or.inr h
  have hS : va_S A s.heap s.heap [] := va_S.rf
  have hP : va_P (dC, dI) cls (List.flatten ([mdO p0a p0w, oJ4 (p0a 6) ta tk tn tw, Wt] : List va_W)) s.heap := hP
  have hl := lv_entry ([.ref (p0a 0), .ref r]) (n := 2) (Nat.le_of_ble_eq_true rfl)
  rw [lg_entry_eq]
  generalize (lg_sl ([.ref (p0a 0), .ref r]) ++ List.replicate (2 - (lg_sl ([.ref (p0a 0), .ref r])).length) Slot.unset).toArray = ls at hl ⊢
  have hl : lv_has ls 2 [(0, .ref (p0a 0)), (1, .ref r)] := hl
  obtain ⟨H, hHe⟩ : ∃ H, H = s.heap := ⟨_, rfl⟩
  obtain ⟨locs, hle⟩ : ∃ locs : List Loc, locs = [] := ⟨_, rfl⟩
  rw [← hHe] at hP
  have hS : va_S A s.heap H locs := by rw [hHe, hle]; exact hS
  have hR9 : 6 ≤ F9 + 8 ∧ 140 ≤ L9 + 400 ∧ 0 + pcl t.length bs.length ≤ pcl t.length bs.length ∧ 0 + psl t.length bs.length ≤ psl t.length bs.length := ⟨by omega, by omega, Nat.le_of_eq (Nat.zero_add _), Nat.le_of_eq (Nat.zero_add _)⟩
  show W p l e ({ frames := F9 + 8, cells := pcl t.length bs.length, slots := psl t.length bs.length, locals := L9 + 400 } : Room) s m ([.ref (p0a 0), .ref r] : List Value).toArray below meth c s.heap [] 0 0 Q (F0 m 0 ls [])
  rw [← hle]
  refine wH9 hHe ?_
  refine W.widen (k := 0 + pcl t.length 0) (n := 0 + psl t.length 0) (Nat.zero_le _) (Nat.zero_le _) ?_
  have hT : TXS dC dI A p0a p0w Wt Tt t s H locs := ⟨ta, tk, tn, tw, hP, hD, hK, hS, hsb⟩
  clear hP hD hK hS
  rcases hph with ⟨so, n, hm0, hk, hbs⟩ | ⟨so, n, a1, x1, hm0, hk, hx1, hbs⟩ | ⟨so, n, a1, a2, x1, x2, hm0, hk, hx1, hx2, hbs⟩
  · have hk := of_decide_eq_true hk
    rcases hk with ⟨rfl, h0, h5⟩ | ⟨rfl, h0, h5⟩
    · obtain ⟨v, hv, rfl⟩ := i9_n (k := 5000) (by decide) h0 h5
      have hbs9 : bs = mp_d v := by
        rw [hbs]
        show mp_d (nn (pu_I v)) = _
        rw [pu_nn (by omega)]
      have hN9 : bs.length = (mp_d v).length := by rw [hbs9]
      refine lv_aload_n hx hb dX13_print___0 rfl (lv_at hl 1 rfl) ?_
      have hT9 := hT
      obtain ⟨ta1, tk1, tn1, tw1, hP, hD, hK, hS, hsb1⟩ := hT9
      obtain ⟨j0, hj0⟩ := List.getElem?_of_mem (fl_mem (L := ([mdO p0a p0w, oJ4 (p0a 6) ta1 tk1 tn1 tw1, Wt] : List va_W)) 2 rfl hm0)
      refine va_get (D := (dC, dI)) (ci := 16) (v := .int 0) (C := RX14) (T := TX14) (N := 4) hx hb hts i_X14 hown hK hP j0 hj0 rfl 0 (by decide) (hts _ qw1617) (fun _ h9 => h9) rfl dX13_print___1 ?_
      refine lv_tableIn (off := 48) (tgt := 52) hx hb dX13_print___4 (by decide) (by decide) rfl (by decide) ?_
      refine lv_aload_n hx hb dX13_print___52 rfl (lv_at hl 0 rfl) ?_
      have hT9 := hT
      obtain ⟨ta1, tk1, tn1, tw1, hP, hD, hK, hS, hsb1⟩ := hT9
      refine va_get (D := (dC, dI)) (ci := 14) (v := .ref (p0a 6)) (C := RX13) (T := TX13) (N := 13) hx hb hts i_X13 hown hK hP 0 rfl rfl 5 (by decide) (hts _ qw1618) (fun _ h9 => h9) rfl dX13_print___53 ?_
      refine lv_aload_n hx hb dX13_print___56 rfl (lv_at hl 1 rfl) ?_
      have hT9 := hT
      obtain ⟨ta1, tk1, tn1, tw1, hP, hD, hK, hS, hsb1⟩ := hT9
      obtain ⟨j0, hj0⟩ := List.getElem?_of_mem (fl_mem (L := ([mdO p0a p0w, oJ4 (p0a 6) ta1 tk1 tn1 tw1, Wt] : List va_W)) 2 rfl hm0)
      refine va_get (D := (dC, dI)) (ci := 16) (v := .int (pu_I v)) (C := RX14) (T := TX14) (N := 4) hx hb hts i_X14 hown hK hP j0 hj0 rfl 1 (by decide) (hts _ qw1619) (fun _ h9 => h9) rfl dX13_print___57 ?_
      refine tx_apI (l := l) (v := v) (b := 0) (t0 := t.length) (N := bs.length) ⟨hx, hb, hml, hown, hts⟩ hE hA hT rfl (by omega) (Nat.add_zero _).symm (by omega) hL hR9 dX13_print___60 hl.1 (Nat.le_of_ble_eq_true rfl) (fun H locs hT => ?_)
      refine lv_pop hx hb dX13_print___63 rfl ?_
      refine lv_goto (tgt := 239) hx hb dX13_print___64 (by decide) ?_
      obtain ⟨ta1, tk1, tn1, tw1, hP, hD, hK, hS, hsb1⟩ := hT
      have hbs8 : (t ++ (mp_d v)) = t ++ bs := by rw [hbs9]
      rw [hbs8] at hsb1
      subst hQ
      refine W.widen (k := pcl t.length bs.length) (n := psl t.length bs.length) (Nat.le_trans (Nat.le_of_eq (Nat.zero_add _)) (pcl_m (by omega)).1) (Nat.le_trans (Nat.le_of_eq (Nat.zero_add _)) (pcl_m (by omega)).2) ?_
      exact W.vret hx hb hr (fun u ht hW => ⟨⟨(), rfl, trivial, ta1, tk1, tn1, tw1, hsb1, by rw [ht]; exact hP, va_K.moved hW.alike hK, hD⟩, hS.F ht⟩) hS.2.2 dX13_print___239
    · obtain ⟨v, hv, rfl⟩ := i9_n (k := 4) (by decide) h0 h5
      have hbs9 : bs = mx_nm v := by
        rw [hbs]
        show mx_nm (nn (pu_I v)) = _
        rw [pu_nn (by omega)]
      have hN9 : bs.length = (mx_nm v).length := by rw [hbs9]
      refine lv_aload_n hx hb dX13_print___0 rfl (lv_at hl 1 rfl) ?_
      have hT9 := hT
      obtain ⟨ta1, tk1, tn1, tw1, hP, hD, hK, hS, hsb1⟩ := hT9
      obtain ⟨j0, hj0⟩ := List.getElem?_of_mem (fl_mem (L := ([mdO p0a p0w, oJ4 (p0a 6) ta1 tk1 tn1 tw1, Wt] : List va_W)) 2 rfl hm0)
      refine va_get (D := (dC, dI)) (ci := 16) (v := .int 1) (C := RX14) (T := TX14) (N := 4) hx hb hts i_X14 hown hK hP j0 hj0 rfl 0 (by decide) (hts _ qw1617) (fun _ h9 => h9) rfl dX13_print___1 ?_
      refine lv_tableIn (off := 63) (tgt := 67) hx hb dX13_print___4 (by decide) (by decide) rfl (by decide) ?_
      refine lv_aload_n hx hb dX13_print___67 rfl (lv_at hl 0 rfl) ?_
      have hT9 := hT
      obtain ⟨ta1, tk1, tn1, tw1, hP, hD, hK, hS, hsb1⟩ := hT9
      refine va_get (D := (dC, dI)) (ci := 14) (v := .ref (p0a 6)) (C := RX13) (T := TX13) (N := 13) hx hb hts i_X13 hown hK hP 0 rfl rfl 5 (by decide) (hts _ qw1618) (fun _ h9 => h9) rfl dX13_print___68 ?_
      have hT9 := hT
      obtain ⟨ta1, tk1, tn1, tw1, hP, hD, hK, hS, hsb1⟩ := hT9
      refine va_gets hx hb (zp_nm hE).1.1 hS hown (hts _ qw1620) (fun _ h9 => h9) dX13_print___71 ?_
      refine lv_aload_n hx hb dX13_print___74 rfl (lv_at hl 1 rfl) ?_
      have hT9 := hT
      obtain ⟨ta1, tk1, tn1, tw1, hP, hD, hK, hS, hsb1⟩ := hT9
      obtain ⟨j0, hj0⟩ := List.getElem?_of_mem (fl_mem (L := ([mdO p0a p0w, oJ4 (p0a 6) ta1 tk1 tn1 tw1, Wt] : List va_W)) 2 rfl hm0)
      refine va_get (D := (dC, dI)) (ci := 16) (v := .int (pu_I v)) (C := RX14) (T := TX14) (N := 4) hx hb hts i_X14 hown hK hP j0 hj0 rfl 1 (by decide) (hts _ qw1619) (fun _ h9 => h9) rfl dX13_print___75 ?_
      refine vb_tq hx hb (zp_nm hE).1.2 hS (ixb_in ((pu_ix (by omega)).mpr (by omega))) (v := .ref (aK (42 + v))) (by show Value.ref (aK (42 + nn (pu_I v))) = _; rw [pu_nn (by omega)]) dX13_print___78 ?_
      obtain ⟨q9, hq9, hn9, hf9⟩ := li_nm v (by omega)
      refine tx_apS (l := l) (x := mx_nm v) (b := 0) (t0 := t.length) (N := bs.length) ⟨hx, hb, hml, hown, hts⟩ hE hA hT (st9_q (zp_st hE) (42 + v) q9 hq9) hn9 (fun j _ => hf9 j) (asc_nm _) (Or.inl (by rw [(mx_nm_ok (by omega)).2]; decide)) (Nat.add_zero _).symm (by omega) hL hR9 dX13_print___79 hl.1 (Nat.le_of_ble_eq_true rfl) (fun H locs hT => ?_)
      refine lv_pop hx hb dX13_print___82 rfl ?_
      refine lv_goto (tgt := 239) hx hb dX13_print___83 (by decide) ?_
      obtain ⟨ta1, tk1, tn1, tw1, hP, hD, hK, hS, hsb1⟩ := hT
      have hbs8 : (t ++ (mx_nm v)) = t ++ bs := by rw [hbs9]
      rw [hbs8] at hsb1
      subst hQ
      refine W.widen (k := pcl t.length bs.length) (n := psl t.length bs.length) (Nat.le_trans (Nat.le_of_eq (Nat.zero_add _)) (pcl_m (by omega)).1) (Nat.le_trans (Nat.le_of_eq (Nat.zero_add _)) (pcl_m (by omega)).2) ?_
      exact W.vret hx hb hr (fun u ht hW => ⟨⟨(), rfl, trivial, ta1, tk1, tn1, tw1, hsb1, by rw [ht]; exact hP, va_K.moved hW.alike hK, hD⟩, hS.F ht⟩) hS.2.2 dX13_print___239
  · have hk := of_decide_eq_true hk
    rcases hk with rfl | rfl | rfl
    · have hbs9 : bs = ([40, 45] : List Int32) ++ (x1 ++ (([41] : List Int32))) := by
        rw [hbs]
        show [40, 45] ++ x1 ++ [41] = _
        simp only [List.append_assoc]
      have hN9 : bs.length = ([40, 45] : List Int32).length + (x1.length + (([41] : List Int32).length)) := by rw [hbs9]; simp only [List.length_append]
      refine lv_aload_n hx hb dX13_print___0 rfl (lv_at hl 1 rfl) ?_
      have hT9 := hT
      obtain ⟨ta1, tk1, tn1, tw1, hP, hD, hK, hS, hsb1⟩ := hT9
      obtain ⟨j0, hj0⟩ := List.getElem?_of_mem (fl_mem (L := ([mdO p0a p0w, oJ4 (p0a 6) ta1 tk1 tn1 tw1, Wt] : List va_W)) 2 rfl hm0)
      refine va_get (D := (dC, dI)) (ci := 16) (v := .int 3) (C := RX14) (T := TX14) (N := 4) hx hb hts i_X14 hown hK hP j0 hj0 rfl 0 (by decide) (hts _ qw1617) (fun _ h9 => h9) rfl dX13_print___1 ?_
      refine lv_tableIn (off := 82) (tgt := 86) hx hb dX13_print___4 (by decide) (by decide) rfl (by decide) ?_
      refine lv_aload_n hx hb dX13_print___86 rfl (lv_at hl 0 rfl) ?_
      have hT9 := hT
      obtain ⟨ta1, tk1, tn1, tw1, hP, hD, hK, hS, hsb1⟩ := hT9
      refine va_get (D := (dC, dI)) (ci := 14) (v := .ref (p0a 6)) (C := RX13) (T := TX13) (N := 13) hx hb hts i_X13 hown hK hP 0 rfl rfl 5 (by decide) (hts _ qw1618) (fun _ h9 => h9) rfl dX13_print___87 ?_
      refine lv_aload_n hx hb dX13_print___90 rfl (lv_at hl 1 rfl) ?_
      have hT9 := hT
      obtain ⟨ta1, tk1, tn1, tw1, hP, hD, hK, hS, hsb1⟩ := hT9
      obtain ⟨j0, hj0⟩ := List.getElem?_of_mem (fl_mem (L := ([mdO p0a p0w, oJ4 (p0a 6) ta1 tk1 tn1 tw1, Wt] : List va_W)) 2 rfl hm0)
      refine va_get (D := (dC, dI)) (ci := 16) (v := .int 3) (C := RX14) (T := TX14) (N := 4) hx hb hts i_X14 hown hK hP j0 hj0 rfl 0 (by decide) (hts _ qw1617) (fun _ h9 => h9) rfl dX13_print___91 ?_
      refine lv_iconst (v := 3) hx hb dX13_print___94 (by decide) ?_
      refine lv_icmp_ne (tgt := 103) hx hb dX13_print___95 (by decide) (fun c => absurd (by decide) c) (fun _ => ?_)
      refine va_ldcS hx hb hown (zp_st hE 19 _ rfl).2 dX13_print___98 ?_
      refine lv_goto (tgt := 105) hx hb dX13_print___100 (by decide) ?_
      refine tx_apS (l := l) (x := ([40, 45] : List Int32)) (b := 0) (t0 := t.length) (N := bs.length) ⟨hx, hb, hml, hown, hts⟩ hE hA hT (st9_q (zp_st hE) 19 _ rfl) rfl (fun j _ => rfl) (asc_of (by decide)) (Or.inl (by decide)) (Nat.add_zero _).symm (by omega) hL hR9 dX13_print___105 hl.1 (Nat.le_of_ble_eq_true rfl) (fun H locs hT => ?_)
      refine lv_pop hx hb dX13_print___108 rfl ?_
      refine lv_aload_n hx hb dX13_print___109 rfl (lv_at hl 0 rfl) ?_
      refine lv_aload_n hx hb dX13_print___110 rfl (lv_at hl 1 rfl) ?_
      have hT9 := hT
      obtain ⟨ta1, tk1, tn1, tw1, hP, hD, hK, hS, hsb1⟩ := hT9
      obtain ⟨j0, hj0⟩ := List.getElem?_of_mem (fl_mem (L := ([mdO p0a p0w, oJ4 (p0a 6) ta1 tk1 tn1 tw1, Wt] : List va_W)) 2 rfl hm0)
      refine va_get (D := (dC, dI)) (ci := 16) (v := .ref a1) (C := RX14) (T := TX14) (N := 4) hx hb hts i_X14 hown hK hP j0 hj0 rfl 2 (by decide) (hts _ qw1621) (fun _ h9 => h9) rfl dX13_print___111 ?_
      refine tx_pr (l := l) (b := (0 + ([40, 45] : List Int32).length)) (t0 := t.length) (N := bs.length) ⟨hx, hb, hml, hown, hts⟩ hE hA hT (ih _ _ hx1) (fun _ _ => cwV 1 hts (gi_V qw1625 qw1622 qw1623 qw1566 (gi_z qw1624)) rfl rfl rfl (by decide +kernel) ⟨rmF9, rmL9 (n := 21) (Nat.le_of_ble_eq_true rfl)⟩) (by simp only [List.length_append]; omega) (by omega) hL hR9.2.2 dX13_print___114 hl.1 (Nat.le_of_ble_eq_true rfl) (fun H locs hT => ?_)
      refine lv_aload_n hx hb dX13_print___117 rfl (lv_at hl 0 rfl) ?_
      have hT9 := hT
      obtain ⟨ta1, tk1, tn1, tw1, hP, hD, hK, hS, hsb1⟩ := hT9
      refine va_get (D := (dC, dI)) (ci := 14) (v := .ref (p0a 6)) (C := RX13) (T := TX13) (N := 13) hx hb hts i_X13 hown hK hP 0 rfl rfl 5 (by decide) (hts _ qw1618) (fun _ h9 => h9) rfl dX13_print___118 ?_
      refine va_ldcS hx hb hown (zp_st hE 21 _ rfl).2 dX13_print___121 ?_
      refine tx_apS (l := l) (x := ([41] : List Int32)) (b := (0 + ([40, 45] : List Int32).length + x1.length)) (t0 := t.length) (N := bs.length) ⟨hx, hb, hml, hown, hts⟩ hE hA hT (st9_q (zp_st hE) 21 _ rfl) rfl (fun j _ => rfl) (asc_of (by decide)) (Or.inl (by decide)) (by simp only [List.length_append]; omega) (by omega) hL hR9 dX13_print___123 hl.1 (Nat.le_of_ble_eq_true rfl) (fun H locs hT => ?_)
      refine lv_pop hx hb dX13_print___126 rfl ?_
      refine lv_goto (tgt := 239) hx hb dX13_print___127 (by decide) ?_
      obtain ⟨ta1, tk1, tn1, tw1, hP, hD, hK, hS, hsb1⟩ := hT
      have hbs8 : (t ++ ([40, 45] : List Int32) ++ x1 ++ ([41] : List Int32)) = t ++ bs := by rw [hbs9]; simp only [List.append_assoc]
      rw [hbs8] at hsb1
      subst hQ
      refine W.widen (k := pcl t.length bs.length) (n := psl t.length bs.length) (Nat.le_trans (Nat.le_of_eq (Nat.zero_add _)) (pcl_m (by omega)).1) (Nat.le_trans (Nat.le_of_eq (Nat.zero_add _)) (pcl_m (by omega)).2) ?_
      exact W.vret hx hb hr (fun u ht hW => ⟨⟨(), rfl, trivial, ta1, tk1, tn1, tw1, hsb1, by rw [ht]; exact hP, va_K.moved hW.alike hK, hD⟩, hS.F ht⟩) hS.2.2 dX13_print___239
    · have hbs9 : bs = ([40, 33] : List Int32) ++ (x1 ++ (([41] : List Int32))) := by
        rw [hbs]
        show [40, 33] ++ x1 ++ [41] = _
        simp only [List.append_assoc]
      have hN9 : bs.length = ([40, 33] : List Int32).length + (x1.length + (([41] : List Int32).length)) := by rw [hbs9]; simp only [List.length_append]
      refine lv_aload_n hx hb dX13_print___0 rfl (lv_at hl 1 rfl) ?_
      have hT9 := hT
      obtain ⟨ta1, tk1, tn1, tw1, hP, hD, hK, hS, hsb1⟩ := hT9
      obtain ⟨j0, hj0⟩ := List.getElem?_of_mem (fl_mem (L := ([mdO p0a p0w, oJ4 (p0a 6) ta1 tk1 tn1 tw1, Wt] : List va_W)) 2 rfl hm0)
      refine va_get (D := (dC, dI)) (ci := 16) (v := .int 4) (C := RX14) (T := TX14) (N := 4) hx hb hts i_X14 hown hK hP j0 hj0 rfl 0 (by decide) (hts _ qw1617) (fun _ h9 => h9) rfl dX13_print___1 ?_
      refine lv_tableIn (off := 82) (tgt := 86) hx hb dX13_print___4 (by decide) (by decide) rfl (by decide) ?_
      refine lv_aload_n hx hb dX13_print___86 rfl (lv_at hl 0 rfl) ?_
      have hT9 := hT
      obtain ⟨ta1, tk1, tn1, tw1, hP, hD, hK, hS, hsb1⟩ := hT9
      refine va_get (D := (dC, dI)) (ci := 14) (v := .ref (p0a 6)) (C := RX13) (T := TX13) (N := 13) hx hb hts i_X13 hown hK hP 0 rfl rfl 5 (by decide) (hts _ qw1618) (fun _ h9 => h9) rfl dX13_print___87 ?_
      refine lv_aload_n hx hb dX13_print___90 rfl (lv_at hl 1 rfl) ?_
      have hT9 := hT
      obtain ⟨ta1, tk1, tn1, tw1, hP, hD, hK, hS, hsb1⟩ := hT9
      obtain ⟨j0, hj0⟩ := List.getElem?_of_mem (fl_mem (L := ([mdO p0a p0w, oJ4 (p0a 6) ta1 tk1 tn1 tw1, Wt] : List va_W)) 2 rfl hm0)
      refine va_get (D := (dC, dI)) (ci := 16) (v := .int 4) (C := RX14) (T := TX14) (N := 4) hx hb hts i_X14 hown hK hP j0 hj0 rfl 0 (by decide) (hts _ qw1617) (fun _ h9 => h9) rfl dX13_print___91 ?_
      refine lv_iconst (v := 3) hx hb dX13_print___94 (by decide) ?_
      refine lv_icmp_ne (tgt := 103) hx hb dX13_print___95 (by decide) (fun _ => ?_) (fun c => absurd c (by decide))
      refine va_ldcS hx hb hown (zp_st hE 20 _ rfl).2 dX13_print___103 ?_
      refine tx_apS (l := l) (x := ([40, 33] : List Int32)) (b := 0) (t0 := t.length) (N := bs.length) ⟨hx, hb, hml, hown, hts⟩ hE hA hT (st9_q (zp_st hE) 20 _ rfl) rfl (fun j _ => rfl) (asc_of (by decide)) (Or.inl (by decide)) (Nat.add_zero _).symm (by omega) hL hR9 dX13_print___105 hl.1 (Nat.le_of_ble_eq_true rfl) (fun H locs hT => ?_)
      refine lv_pop hx hb dX13_print___108 rfl ?_
      refine lv_aload_n hx hb dX13_print___109 rfl (lv_at hl 0 rfl) ?_
      refine lv_aload_n hx hb dX13_print___110 rfl (lv_at hl 1 rfl) ?_
      have hT9 := hT
      obtain ⟨ta1, tk1, tn1, tw1, hP, hD, hK, hS, hsb1⟩ := hT9
      obtain ⟨j0, hj0⟩ := List.getElem?_of_mem (fl_mem (L := ([mdO p0a p0w, oJ4 (p0a 6) ta1 tk1 tn1 tw1, Wt] : List va_W)) 2 rfl hm0)
      refine va_get (D := (dC, dI)) (ci := 16) (v := .ref a1) (C := RX14) (T := TX14) (N := 4) hx hb hts i_X14 hown hK hP j0 hj0 rfl 2 (by decide) (hts _ qw1621) (fun _ h9 => h9) rfl dX13_print___111 ?_
      refine tx_pr (l := l) (b := (0 + ([40, 33] : List Int32).length)) (t0 := t.length) (N := bs.length) ⟨hx, hb, hml, hown, hts⟩ hE hA hT (ih _ _ hx1) (fun _ _ => cwV 1 hts (gi_V qw1625 qw1622 qw1623 qw1566 (gi_z qw1624)) rfl rfl rfl (by decide +kernel) ⟨rmF9, rmL9 (n := 21) (Nat.le_of_ble_eq_true rfl)⟩) (by simp only [List.length_append]; omega) (by omega) hL hR9.2.2 dX13_print___114 hl.1 (Nat.le_of_ble_eq_true rfl) (fun H locs hT => ?_)
      refine lv_aload_n hx hb dX13_print___117 rfl (lv_at hl 0 rfl) ?_
      have hT9 := hT
      obtain ⟨ta1, tk1, tn1, tw1, hP, hD, hK, hS, hsb1⟩ := hT9
      refine va_get (D := (dC, dI)) (ci := 14) (v := .ref (p0a 6)) (C := RX13) (T := TX13) (N := 13) hx hb hts i_X13 hown hK hP 0 rfl rfl 5 (by decide) (hts _ qw1618) (fun _ h9 => h9) rfl dX13_print___118 ?_
      refine va_ldcS hx hb hown (zp_st hE 21 _ rfl).2 dX13_print___121 ?_
      refine tx_apS (l := l) (x := ([41] : List Int32)) (b := (0 + ([40, 33] : List Int32).length + x1.length)) (t0 := t.length) (N := bs.length) ⟨hx, hb, hml, hown, hts⟩ hE hA hT (st9_q (zp_st hE) 21 _ rfl) rfl (fun j _ => rfl) (asc_of (by decide)) (Or.inl (by decide)) (by simp only [List.length_append]; omega) (by omega) hL hR9 dX13_print___123 hl.1 (Nat.le_of_ble_eq_true rfl) (fun H locs hT => ?_)
      refine lv_pop hx hb dX13_print___126 rfl ?_
      refine lv_goto (tgt := 239) hx hb dX13_print___127 (by decide) ?_
      obtain ⟨ta1, tk1, tn1, tw1, hP, hD, hK, hS, hsb1⟩ := hT
      have hbs8 : (t ++ ([40, 33] : List Int32) ++ x1 ++ ([41] : List Int32)) = t ++ bs := by rw [hbs9]; simp only [List.append_assoc]
      rw [hbs8] at hsb1
      subst hQ
      refine W.widen (k := pcl t.length bs.length) (n := psl t.length bs.length) (Nat.le_trans (Nat.le_of_eq (Nat.zero_add _)) (pcl_m (by omega)).1) (Nat.le_trans (Nat.le_of_eq (Nat.zero_add _)) (pcl_m (by omega)).2) ?_
      exact W.vret hx hb hr (fun u ht hW => ⟨⟨(), rfl, trivial, ta1, tk1, tn1, tw1, hsb1, by rw [ht]; exact hP, va_K.moved hW.alike hK, hD⟩, hS.F ht⟩) hS.2.2 dX13_print___239
    · have hbs9 : bs = ([91] : List Int32) ++ (x1 ++ (([93] : List Int32))) := by
        rw [hbs]
        show [91] ++ x1 ++ [93] = _
        simp only [List.append_assoc]
      have hN9 : bs.length = ([91] : List Int32).length + (x1.length + (([93] : List Int32).length)) := by rw [hbs9]; simp only [List.length_append]
      refine lv_aload_n hx hb dX13_print___0 rfl (lv_at hl 1 rfl) ?_
      have hT9 := hT
      obtain ⟨ta1, tk1, tn1, tw1, hP, hD, hK, hS, hsb1⟩ := hT9
      obtain ⟨j0, hj0⟩ := List.getElem?_of_mem (fl_mem (L := ([mdO p0a p0w, oJ4 (p0a 6) ta1 tk1 tn1 tw1, Wt] : List va_W)) 2 rfl hm0)
      refine va_get (D := (dC, dI)) (ci := 16) (v := .int 7) (C := RX14) (T := TX14) (N := 4) hx hb hts i_X14 hown hK hP j0 hj0 rfl 0 (by decide) (hts _ qw1617) (fun _ h9 => h9) rfl dX13_print___1 ?_
      refine lv_tableIn (off := 126) (tgt := 130) hx hb dX13_print___4 (by decide) (by decide) rfl (by decide) ?_
      refine lv_aload_n hx hb dX13_print___130 rfl (lv_at hl 0 rfl) ?_
      have hT9 := hT
      obtain ⟨ta1, tk1, tn1, tw1, hP, hD, hK, hS, hsb1⟩ := hT9
      refine va_get (D := (dC, dI)) (ci := 14) (v := .ref (p0a 6)) (C := RX13) (T := TX13) (N := 13) hx hb hts i_X13 hown hK hP 0 rfl rfl 5 (by decide) (hts _ qw1618) (fun _ h9 => h9) rfl dX13_print___131 ?_
      refine va_ldcS hx hb hown (zp_st hE 7 _ rfl).2 dX13_print___134 ?_
      refine tx_apS (l := l) (x := ([91] : List Int32)) (b := 0) (t0 := t.length) (N := bs.length) ⟨hx, hb, hml, hown, hts⟩ hE hA hT (st9_q (zp_st hE) 7 _ rfl) rfl (fun j _ => rfl) (asc_of (by decide)) (Or.inl (by decide)) (Nat.add_zero _).symm (by omega) hL hR9 dX13_print___136 hl.1 (Nat.le_of_ble_eq_true rfl) (fun H locs hT => ?_)
      refine lv_pop hx hb dX13_print___139 rfl ?_
      refine lv_aload_n hx hb dX13_print___140 rfl (lv_at hl 0 rfl) ?_
      refine lv_aload_n hx hb dX13_print___141 rfl (lv_at hl 1 rfl) ?_
      have hT9 := hT
      obtain ⟨ta1, tk1, tn1, tw1, hP, hD, hK, hS, hsb1⟩ := hT9
      obtain ⟨j0, hj0⟩ := List.getElem?_of_mem (fl_mem (L := ([mdO p0a p0w, oJ4 (p0a 6) ta1 tk1 tn1 tw1, Wt] : List va_W)) 2 rfl hm0)
      refine va_get (D := (dC, dI)) (ci := 16) (v := .ref a1) (C := RX14) (T := TX14) (N := 4) hx hb hts i_X14 hown hK hP j0 hj0 rfl 2 (by decide) (hts _ qw1621) (fun _ h9 => h9) rfl dX13_print___142 ?_
      refine tx_pr (l := l) (b := (0 + ([91] : List Int32).length)) (t0 := t.length) (N := bs.length) ⟨hx, hb, hml, hown, hts⟩ hE hA hT (ih _ _ hx1) (fun _ _ => cwV 1 hts (gi_V qw1625 qw1622 qw1623 qw1566 (gi_z qw1624)) rfl rfl rfl (by decide +kernel) ⟨rmF9, rmL9 (n := 21) (Nat.le_of_ble_eq_true rfl)⟩) (by simp only [List.length_append]; omega) (by omega) hL hR9.2.2 dX13_print___145 hl.1 (Nat.le_of_ble_eq_true rfl) (fun H locs hT => ?_)
      refine lv_aload_n hx hb dX13_print___148 rfl (lv_at hl 0 rfl) ?_
      have hT9 := hT
      obtain ⟨ta1, tk1, tn1, tw1, hP, hD, hK, hS, hsb1⟩ := hT9
      refine va_get (D := (dC, dI)) (ci := 14) (v := .ref (p0a 6)) (C := RX13) (T := TX13) (N := 13) hx hb hts i_X13 hown hK hP 0 rfl rfl 5 (by decide) (hts _ qw1618) (fun _ h9 => h9) rfl dX13_print___149 ?_
      refine va_ldcS hx hb hown (zp_st hE 22 _ rfl).2 dX13_print___152 ?_
      refine tx_apS (l := l) (x := ([93] : List Int32)) (b := (0 + ([91] : List Int32).length + x1.length)) (t0 := t.length) (N := bs.length) ⟨hx, hb, hml, hown, hts⟩ hE hA hT (st9_q (zp_st hE) 22 _ rfl) rfl (fun j _ => rfl) (asc_of (by decide)) (Or.inl (by decide)) (by simp only [List.length_append]; omega) (by omega) hL hR9 dX13_print___154 hl.1 (Nat.le_of_ble_eq_true rfl) (fun H locs hT => ?_)
      refine lv_pop hx hb dX13_print___157 rfl ?_
      refine lv_goto (tgt := 239) hx hb dX13_print___158 (by decide) ?_
      obtain ⟨ta1, tk1, tn1, tw1, hP, hD, hK, hS, hsb1⟩ := hT
      have hbs8 : (t ++ ([91] : List Int32) ++ x1 ++ ([93] : List Int32)) = t ++ bs := by rw [hbs9]; simp only [List.append_assoc]
      rw [hbs8] at hsb1
      subst hQ
      refine W.widen (k := pcl t.length bs.length) (n := psl t.length bs.length) (Nat.le_trans (Nat.le_of_eq (Nat.zero_add _)) (pcl_m (by omega)).1) (Nat.le_trans (Nat.le_of_eq (Nat.zero_add _)) (pcl_m (by omega)).2) ?_
      exact W.vret hx hb hr (fun u ht hW => ⟨⟨(), rfl, trivial, ta1, tk1, tn1, tw1, hsb1, by rw [ht]; exact hP, va_K.moved hW.alike hK, hD⟩, hS.F ht⟩) hS.2.2 dX13_print___239
  · have hk := of_decide_eq_true hk
    rcases hk with ⟨rfl, h0, h5⟩ | rfl | rfl
    · have h6 : n < pu_I 17 := by rw [Int32.lt_iff_toInt_lt]; rw [Int32.le_iff_toInt_le] at h5; have : Int32.toInt 16 = 16 := rfl; have : (pu_I 17).toInt = 17 := rfl; omega
      have h7 : 0 ≤ n := by rw [Int32.le_iff_toInt_le] at h0 ⊢; have : Int32.toInt 1 = 1 := rfl; have : Int32.toInt 0 = 0 := rfl; omega
      obtain ⟨v, hv, rfl⟩ := i9_n (k := 17) (by decide) h7 h6
      have hv1 : 1 ≤ v := (pu_le (a := 1) (by decide) (by omega)).mp h0
      have hbs9 : bs = [40] ++ (x1 ++ (mx_op v ++ (x2 ++ [41]))) := by
        rw [hbs]
        show [40] ++ x1 ++ mx_op (nn (pu_I v)) ++ x2 ++ [41] = _
        rw [pu_nn (by omega)]
        simp only [List.append_assoc]
      have hN9 : bs.length = ([40] : List Int32).length + (x1.length + ((mx_op v).length + (x2.length + (([41] : List Int32).length)))) := by rw [hbs9]; simp only [List.length_append]
      refine lv_aload_n hx hb dX13_print___0 rfl (lv_at hl 1 rfl) ?_
      have hT9 := hT
      obtain ⟨ta1, tk1, tn1, tw1, hP, hD, hK, hS, hsb1⟩ := hT9
      obtain ⟨j0, hj0⟩ := List.getElem?_of_mem (fl_mem (L := ([mdO p0a p0w, oJ4 (p0a 6) ta1 tk1 tn1 tw1, Wt] : List va_W)) 2 rfl hm0)
      refine va_get (D := (dC, dI)) (ci := 16) (v := .int 2) (C := RX14) (T := TX14) (N := 4) hx hb hts i_X14 hown hK hP j0 hj0 rfl 0 (by decide) (hts _ qw1617) (fun _ h9 => h9) rfl dX13_print___1 ?_
      refine lv_tableIn (off := 157) (tgt := 161) hx hb dX13_print___4 (by decide) (by decide) rfl (by decide) ?_
      refine lv_aload_n hx hb dX13_print___161 rfl (lv_at hl 0 rfl) ?_
      have hT9 := hT
      obtain ⟨ta1, tk1, tn1, tw1, hP, hD, hK, hS, hsb1⟩ := hT9
      refine va_get (D := (dC, dI)) (ci := 14) (v := .ref (p0a 6)) (C := RX13) (T := TX13) (N := 13) hx hb hts i_X13 hown hK hP 0 rfl rfl 5 (by decide) (hts _ qw1618) (fun _ h9 => h9) rfl dX13_print___162 ?_
      refine va_ldcS hx hb hown (zp_st hE 23 _ rfl).2 dX13_print___165 ?_
      refine tx_apS (l := l) (x := ([40] : List Int32)) (b := 0) (t0 := t.length) (N := bs.length) ⟨hx, hb, hml, hown, hts⟩ hE hA hT (st9_q (zp_st hE) 23 _ rfl) rfl (fun j _ => rfl) (asc_of (by decide)) (Or.inl (by decide)) (Nat.add_zero _).symm (by omega) hL hR9 dX13_print___167 hl.1 (Nat.le_of_ble_eq_true rfl) (fun H locs hT => ?_)
      refine lv_pop hx hb dX13_print___170 rfl ?_
      refine lv_aload_n hx hb dX13_print___171 rfl (lv_at hl 0 rfl) ?_
      refine lv_aload_n hx hb dX13_print___172 rfl (lv_at hl 1 rfl) ?_
      have hT9 := hT
      obtain ⟨ta1, tk1, tn1, tw1, hP, hD, hK, hS, hsb1⟩ := hT9
      obtain ⟨j0, hj0⟩ := List.getElem?_of_mem (fl_mem (L := ([mdO p0a p0w, oJ4 (p0a 6) ta1 tk1 tn1 tw1, Wt] : List va_W)) 2 rfl hm0)
      refine va_get (D := (dC, dI)) (ci := 16) (v := .ref a1) (C := RX14) (T := TX14) (N := 4) hx hb hts i_X14 hown hK hP j0 hj0 rfl 2 (by decide) (hts _ qw1621) (fun _ h9 => h9) rfl dX13_print___173 ?_
      refine tx_pr (l := l) (b := (0 + ([40] : List Int32).length)) (t0 := t.length) (N := bs.length) ⟨hx, hb, hml, hown, hts⟩ hE hA hT (ih _ _ hx1) (fun _ _ => cwV 1 hts (gi_V qw1625 qw1622 qw1623 qw1566 (gi_z qw1624)) rfl rfl rfl (by decide +kernel) ⟨rmF9, rmL9 (n := 21) (Nat.le_of_ble_eq_true rfl)⟩) (by simp only [List.length_append]; omega) (by omega) hL hR9.2.2 dX13_print___176 hl.1 (Nat.le_of_ble_eq_true rfl) (fun H locs hT => ?_)
      refine lv_aload_n hx hb dX13_print___179 rfl (lv_at hl 0 rfl) ?_
      have hT9 := hT
      obtain ⟨ta1, tk1, tn1, tw1, hP, hD, hK, hS, hsb1⟩ := hT9
      refine va_get (D := (dC, dI)) (ci := 14) (v := .ref (p0a 6)) (C := RX13) (T := TX13) (N := 13) hx hb hts i_X13 hown hK hP 0 rfl rfl 5 (by decide) (hts _ qw1618) (fun _ h9 => h9) rfl dX13_print___180 ?_
      refine lv_aload_n hx hb dX13_print___183 rfl (lv_at hl 1 rfl) ?_
      have hT9 := hT
      obtain ⟨ta1, tk1, tn1, tw1, hP, hD, hK, hS, hsb1⟩ := hT9
      obtain ⟨j0, hj0⟩ := List.getElem?_of_mem (fl_mem (L := ([mdO p0a p0w, oJ4 (p0a 6) ta1 tk1 tn1 tw1, Wt] : List va_W)) 2 rfl hm0)
      refine va_get (D := (dC, dI)) (ci := 16) (v := .int 2) (C := RX14) (T := TX14) (N := 4) hx hb hts i_X14 hown hK hP j0 hj0 rfl 0 (by decide) (hts _ qw1617) (fun _ h9 => h9) rfl dX13_print___184 ?_
      refine lv_iconst (v := 2) hx hb dX13_print___187 (by decide) ?_
      refine lv_icmp_ne (tgt := 202) hx hb dX13_print___188 (by decide) (fun c => absurd (by decide) c) (fun _ => ?_)
      have hT9 := hT
      obtain ⟨ta1, tk1, tn1, tw1, hP, hD, hK, hS, hsb1⟩ := hT9
      refine va_gets hx hb (zp_nm hE).2.1 hS hown (hts _ qw1626) (fun _ h9 => h9) dX13_print___191 ?_
      refine lv_aload_n hx hb dX13_print___194 rfl (lv_at hl 1 rfl) ?_
      have hT9 := hT
      obtain ⟨ta1, tk1, tn1, tw1, hP, hD, hK, hS, hsb1⟩ := hT9
      obtain ⟨j0, hj0⟩ := List.getElem?_of_mem (fl_mem (L := ([mdO p0a p0w, oJ4 (p0a 6) ta1 tk1 tn1 tw1, Wt] : List va_W)) 2 rfl hm0)
      refine va_get (D := (dC, dI)) (ci := 16) (v := .int (pu_I v)) (C := RX14) (T := TX14) (N := 4) hx hb hts i_X14 hown hK hP j0 hj0 rfl 1 (by decide) (hts _ qw1619) (fun _ h9 => h9) rfl dX13_print___195 ?_
      refine vb_tq hx hb (zp_nm hE).2.2 hS (ixb_in ((pu_ix (by omega)).mpr (by omega))) (v := .ref (aK (opK v))) (by show Value.ref (aK (opK (nn (pu_I v)))) = _; rw [pu_nn (by omega)]) dX13_print___198 ?_
      refine lv_goto (tgt := 217) hx hb dX13_print___199 (by decide) ?_
      obtain ⟨q9, hq9, hn9, hf9⟩ := li_op v (by omega) (by omega)
      refine tx_apS (l := l) (x := mx_op v) (b := (0 + ([40] : List Int32).length + x1.length)) (t0 := t.length) (N := bs.length) ⟨hx, hb, hml, hown, hts⟩ hE hA hT (st9_q (zp_st hE) (opK v) q9 hq9) hn9 (fun j _ => hf9 j) (asc_op _) (Or.inl (Nat.le_trans (mx_op_g _ (by omega) (by omega)).1.2.2.1 (by decide))) (by simp only [List.length_append]; omega) (by omega) hL hR9 dX13_print___217 hl.1 (Nat.le_of_ble_eq_true rfl) (fun H locs hT => ?_)
      refine lv_pop hx hb dX13_print___220 rfl ?_
      refine lv_aload_n hx hb dX13_print___221 rfl (lv_at hl 0 rfl) ?_
      refine lv_aload_n hx hb dX13_print___222 rfl (lv_at hl 1 rfl) ?_
      have hT9 := hT
      obtain ⟨ta1, tk1, tn1, tw1, hP, hD, hK, hS, hsb1⟩ := hT9
      obtain ⟨j0, hj0⟩ := List.getElem?_of_mem (fl_mem (L := ([mdO p0a p0w, oJ4 (p0a 6) ta1 tk1 tn1 tw1, Wt] : List va_W)) 2 rfl hm0)
      refine va_get (D := (dC, dI)) (ci := 16) (v := .ref a2) (C := RX14) (T := TX14) (N := 4) hx hb hts i_X14 hown hK hP j0 hj0 rfl 3 (by decide) (hts _ qw1627) (fun _ h9 => h9) rfl dX13_print___223 ?_
      refine tx_pr (l := l) (b := (0 + ([40] : List Int32).length + x1.length + (mx_op v).length)) (t0 := t.length) (N := bs.length) ⟨hx, hb, hml, hown, hts⟩ hE hA hT (ih _ _ hx2) (fun _ _ => cwV 1 hts (gi_V qw1625 qw1622 qw1623 qw1566 (gi_z qw1624)) rfl rfl rfl (by decide +kernel) ⟨rmF9, rmL9 (n := 21) (Nat.le_of_ble_eq_true rfl)⟩) (by simp only [List.length_append]; omega) (by omega) hL hR9.2.2 dX13_print___226 hl.1 (Nat.le_of_ble_eq_true rfl) (fun H locs hT => ?_)
      refine lv_aload_n hx hb dX13_print___229 rfl (lv_at hl 0 rfl) ?_
      have hT9 := hT
      obtain ⟨ta1, tk1, tn1, tw1, hP, hD, hK, hS, hsb1⟩ := hT9
      refine va_get (D := (dC, dI)) (ci := 14) (v := .ref (p0a 6)) (C := RX13) (T := TX13) (N := 13) hx hb hts i_X13 hown hK hP 0 rfl rfl 5 (by decide) (hts _ qw1618) (fun _ h9 => h9) rfl dX13_print___230 ?_
      refine va_ldcS hx hb hown (zp_st hE 21 _ rfl).2 dX13_print___233 ?_
      refine tx_apS (l := l) (x := ([41] : List Int32)) (b := (0 + ([40] : List Int32).length + x1.length + (mx_op v).length + x2.length)) (t0 := t.length) (N := bs.length) ⟨hx, hb, hml, hown, hts⟩ hE hA hT (st9_q (zp_st hE) 21 _ rfl) rfl (fun j _ => rfl) (asc_of (by decide)) (Or.inl (by decide)) (by simp only [List.length_append]; omega) (by omega) hL hR9 dX13_print___235 hl.1 (Nat.le_of_ble_eq_true rfl) (fun H locs hT => ?_)
      refine lv_pop hx hb dX13_print___238 rfl ?_
      obtain ⟨ta1, tk1, tn1, tw1, hP, hD, hK, hS, hsb1⟩ := hT
      have hbs8 : (t ++ ([40] : List Int32) ++ x1 ++ (mx_op v) ++ x2 ++ ([41] : List Int32)) = t ++ bs := by rw [hbs9]; simp only [List.append_assoc]
      rw [hbs8] at hsb1
      subst hQ
      refine W.widen (k := pcl t.length bs.length) (n := psl t.length bs.length) (Nat.le_trans (Nat.le_of_eq (Nat.zero_add _)) (pcl_m (by omega)).1) (Nat.le_trans (Nat.le_of_eq (Nat.zero_add _)) (pcl_m (by omega)).2) ?_
      exact W.vret hx hb hr (fun u ht hW => ⟨⟨(), rfl, trivial, ta1, tk1, tn1, tw1, hsb1, by rw [ht]; exact hP, va_K.moved hW.alike hK, hD⟩, hS.F ht⟩) hS.2.2 dX13_print___239
    · have hbs9 : bs = ([40] : List Int32) ++ (x1 ++ (([38, 38] : List Int32) ++ (x2 ++ (([41] : List Int32))))) := by
        rw [hbs]
        show [40] ++ x1 ++ [38, 38] ++ x2 ++ [41] = _
        simp only [List.append_assoc]
      have hN9 : bs.length = ([40] : List Int32).length + (x1.length + (([38, 38] : List Int32).length + (x2.length + (([41] : List Int32).length)))) := by rw [hbs9]; simp only [List.length_append]
      refine lv_aload_n hx hb dX13_print___0 rfl (lv_at hl 1 rfl) ?_
      have hT9 := hT
      obtain ⟨ta1, tk1, tn1, tw1, hP, hD, hK, hS, hsb1⟩ := hT9
      obtain ⟨j0, hj0⟩ := List.getElem?_of_mem (fl_mem (L := ([mdO p0a p0w, oJ4 (p0a 6) ta1 tk1 tn1 tw1, Wt] : List va_W)) 2 rfl hm0)
      refine va_get (D := (dC, dI)) (ci := 16) (v := .int 5) (C := RX14) (T := TX14) (N := 4) hx hb hts i_X14 hown hK hP j0 hj0 rfl 0 (by decide) (hts _ qw1617) (fun _ h9 => h9) rfl dX13_print___1 ?_
      refine lv_tableIn (off := 157) (tgt := 161) hx hb dX13_print___4 (by decide) (by decide) rfl (by decide) ?_
      refine lv_aload_n hx hb dX13_print___161 rfl (lv_at hl 0 rfl) ?_
      have hT9 := hT
      obtain ⟨ta1, tk1, tn1, tw1, hP, hD, hK, hS, hsb1⟩ := hT9
      refine va_get (D := (dC, dI)) (ci := 14) (v := .ref (p0a 6)) (C := RX13) (T := TX13) (N := 13) hx hb hts i_X13 hown hK hP 0 rfl rfl 5 (by decide) (hts _ qw1618) (fun _ h9 => h9) rfl dX13_print___162 ?_
      refine va_ldcS hx hb hown (zp_st hE 23 _ rfl).2 dX13_print___165 ?_
      refine tx_apS (l := l) (x := ([40] : List Int32)) (b := 0) (t0 := t.length) (N := bs.length) ⟨hx, hb, hml, hown, hts⟩ hE hA hT (st9_q (zp_st hE) 23 _ rfl) rfl (fun j _ => rfl) (asc_of (by decide)) (Or.inl (by decide)) (Nat.add_zero _).symm (by omega) hL hR9 dX13_print___167 hl.1 (Nat.le_of_ble_eq_true rfl) (fun H locs hT => ?_)
      refine lv_pop hx hb dX13_print___170 rfl ?_
      refine lv_aload_n hx hb dX13_print___171 rfl (lv_at hl 0 rfl) ?_
      refine lv_aload_n hx hb dX13_print___172 rfl (lv_at hl 1 rfl) ?_
      have hT9 := hT
      obtain ⟨ta1, tk1, tn1, tw1, hP, hD, hK, hS, hsb1⟩ := hT9
      obtain ⟨j0, hj0⟩ := List.getElem?_of_mem (fl_mem (L := ([mdO p0a p0w, oJ4 (p0a 6) ta1 tk1 tn1 tw1, Wt] : List va_W)) 2 rfl hm0)
      refine va_get (D := (dC, dI)) (ci := 16) (v := .ref a1) (C := RX14) (T := TX14) (N := 4) hx hb hts i_X14 hown hK hP j0 hj0 rfl 2 (by decide) (hts _ qw1621) (fun _ h9 => h9) rfl dX13_print___173 ?_
      refine tx_pr (l := l) (b := (0 + ([40] : List Int32).length)) (t0 := t.length) (N := bs.length) ⟨hx, hb, hml, hown, hts⟩ hE hA hT (ih _ _ hx1) (fun _ _ => cwV 1 hts (gi_V qw1625 qw1622 qw1623 qw1566 (gi_z qw1624)) rfl rfl rfl (by decide +kernel) ⟨rmF9, rmL9 (n := 21) (Nat.le_of_ble_eq_true rfl)⟩) (by simp only [List.length_append]; omega) (by omega) hL hR9.2.2 dX13_print___176 hl.1 (Nat.le_of_ble_eq_true rfl) (fun H locs hT => ?_)
      refine lv_aload_n hx hb dX13_print___179 rfl (lv_at hl 0 rfl) ?_
      have hT9 := hT
      obtain ⟨ta1, tk1, tn1, tw1, hP, hD, hK, hS, hsb1⟩ := hT9
      refine va_get (D := (dC, dI)) (ci := 14) (v := .ref (p0a 6)) (C := RX13) (T := TX13) (N := 13) hx hb hts i_X13 hown hK hP 0 rfl rfl 5 (by decide) (hts _ qw1618) (fun _ h9 => h9) rfl dX13_print___180 ?_
      refine lv_aload_n hx hb dX13_print___183 rfl (lv_at hl 1 rfl) ?_
      have hT9 := hT
      obtain ⟨ta1, tk1, tn1, tw1, hP, hD, hK, hS, hsb1⟩ := hT9
      obtain ⟨j0, hj0⟩ := List.getElem?_of_mem (fl_mem (L := ([mdO p0a p0w, oJ4 (p0a 6) ta1 tk1 tn1 tw1, Wt] : List va_W)) 2 rfl hm0)
      refine va_get (D := (dC, dI)) (ci := 16) (v := .int 5) (C := RX14) (T := TX14) (N := 4) hx hb hts i_X14 hown hK hP j0 hj0 rfl 0 (by decide) (hts _ qw1617) (fun _ h9 => h9) rfl dX13_print___184 ?_
      refine lv_iconst (v := 2) hx hb dX13_print___187 (by decide) ?_
      refine lv_icmp_ne (tgt := 202) hx hb dX13_print___188 (by decide) (fun _ => ?_) (fun c => absurd c (by decide))
      refine lv_aload_n hx hb dX13_print___202 rfl (lv_at hl 1 rfl) ?_
      have hT9 := hT
      obtain ⟨ta1, tk1, tn1, tw1, hP, hD, hK, hS, hsb1⟩ := hT9
      obtain ⟨j0, hj0⟩ := List.getElem?_of_mem (fl_mem (L := ([mdO p0a p0w, oJ4 (p0a 6) ta1 tk1 tn1 tw1, Wt] : List va_W)) 2 rfl hm0)
      refine va_get (D := (dC, dI)) (ci := 16) (v := .int 5) (C := RX14) (T := TX14) (N := 4) hx hb hts i_X14 hown hK hP j0 hj0 rfl 0 (by decide) (hts _ qw1617) (fun _ h9 => h9) rfl dX13_print___203 ?_
      refine lv_iconst (v := 5) hx hb dX13_print___206 (by decide) ?_
      refine lv_icmp_ne (tgt := 215) hx hb dX13_print___207 (by decide) (fun c => absurd (by decide) c) (fun _ => ?_)
      refine va_ldcS hx hb hown (zp_st hE 24 _ rfl).2 dX13_print___210 ?_
      refine lv_goto (tgt := 217) hx hb dX13_print___212 (by decide) ?_
      refine tx_apS (l := l) (x := ([38, 38] : List Int32)) (b := (0 + ([40] : List Int32).length + x1.length)) (t0 := t.length) (N := bs.length) ⟨hx, hb, hml, hown, hts⟩ hE hA hT (st9_q (zp_st hE) 24 _ rfl) rfl (fun j _ => rfl) (asc_of (by decide)) (Or.inl (by decide)) (by simp only [List.length_append]; omega) (by omega) hL hR9 dX13_print___217 hl.1 (Nat.le_of_ble_eq_true rfl) (fun H locs hT => ?_)
      refine lv_pop hx hb dX13_print___220 rfl ?_
      refine lv_aload_n hx hb dX13_print___221 rfl (lv_at hl 0 rfl) ?_
      refine lv_aload_n hx hb dX13_print___222 rfl (lv_at hl 1 rfl) ?_
      have hT9 := hT
      obtain ⟨ta1, tk1, tn1, tw1, hP, hD, hK, hS, hsb1⟩ := hT9
      obtain ⟨j0, hj0⟩ := List.getElem?_of_mem (fl_mem (L := ([mdO p0a p0w, oJ4 (p0a 6) ta1 tk1 tn1 tw1, Wt] : List va_W)) 2 rfl hm0)
      refine va_get (D := (dC, dI)) (ci := 16) (v := .ref a2) (C := RX14) (T := TX14) (N := 4) hx hb hts i_X14 hown hK hP j0 hj0 rfl 3 (by decide) (hts _ qw1627) (fun _ h9 => h9) rfl dX13_print___223 ?_
      refine tx_pr (l := l) (b := (0 + ([40] : List Int32).length + x1.length + ([38, 38] : List Int32).length)) (t0 := t.length) (N := bs.length) ⟨hx, hb, hml, hown, hts⟩ hE hA hT (ih _ _ hx2) (fun _ _ => cwV 1 hts (gi_V qw1625 qw1622 qw1623 qw1566 (gi_z qw1624)) rfl rfl rfl (by decide +kernel) ⟨rmF9, rmL9 (n := 21) (Nat.le_of_ble_eq_true rfl)⟩) (by simp only [List.length_append]; omega) (by omega) hL hR9.2.2 dX13_print___226 hl.1 (Nat.le_of_ble_eq_true rfl) (fun H locs hT => ?_)
      refine lv_aload_n hx hb dX13_print___229 rfl (lv_at hl 0 rfl) ?_
      have hT9 := hT
      obtain ⟨ta1, tk1, tn1, tw1, hP, hD, hK, hS, hsb1⟩ := hT9
      refine va_get (D := (dC, dI)) (ci := 14) (v := .ref (p0a 6)) (C := RX13) (T := TX13) (N := 13) hx hb hts i_X13 hown hK hP 0 rfl rfl 5 (by decide) (hts _ qw1618) (fun _ h9 => h9) rfl dX13_print___230 ?_
      refine va_ldcS hx hb hown (zp_st hE 21 _ rfl).2 dX13_print___233 ?_
      refine tx_apS (l := l) (x := ([41] : List Int32)) (b := (0 + ([40] : List Int32).length + x1.length + ([38, 38] : List Int32).length + x2.length)) (t0 := t.length) (N := bs.length) ⟨hx, hb, hml, hown, hts⟩ hE hA hT (st9_q (zp_st hE) 21 _ rfl) rfl (fun j _ => rfl) (asc_of (by decide)) (Or.inl (by decide)) (by simp only [List.length_append]; omega) (by omega) hL hR9 dX13_print___235 hl.1 (Nat.le_of_ble_eq_true rfl) (fun H locs hT => ?_)
      refine lv_pop hx hb dX13_print___238 rfl ?_
      obtain ⟨ta1, tk1, tn1, tw1, hP, hD, hK, hS, hsb1⟩ := hT
      have hbs8 : (t ++ ([40] : List Int32) ++ x1 ++ ([38, 38] : List Int32) ++ x2 ++ ([41] : List Int32)) = t ++ bs := by rw [hbs9]; simp only [List.append_assoc]
      rw [hbs8] at hsb1
      subst hQ
      refine W.widen (k := pcl t.length bs.length) (n := psl t.length bs.length) (Nat.le_trans (Nat.le_of_eq (Nat.zero_add _)) (pcl_m (by omega)).1) (Nat.le_trans (Nat.le_of_eq (Nat.zero_add _)) (pcl_m (by omega)).2) ?_
      exact W.vret hx hb hr (fun u ht hW => ⟨⟨(), rfl, trivial, ta1, tk1, tn1, tw1, hsb1, by rw [ht]; exact hP, va_K.moved hW.alike hK, hD⟩, hS.F ht⟩) hS.2.2 dX13_print___239
    · have hbs9 : bs = ([40] : List Int32) ++ (x1 ++ (([124, 124] : List Int32) ++ (x2 ++ (([41] : List Int32))))) := by
        rw [hbs]
        show [40] ++ x1 ++ [124, 124] ++ x2 ++ [41] = _
        simp only [List.append_assoc]
      have hN9 : bs.length = ([40] : List Int32).length + (x1.length + (([124, 124] : List Int32).length + (x2.length + (([41] : List Int32).length)))) := by rw [hbs9]; simp only [List.length_append]
      refine lv_aload_n hx hb dX13_print___0 rfl (lv_at hl 1 rfl) ?_
      have hT9 := hT
      obtain ⟨ta1, tk1, tn1, tw1, hP, hD, hK, hS, hsb1⟩ := hT9
      obtain ⟨j0, hj0⟩ := List.getElem?_of_mem (fl_mem (L := ([mdO p0a p0w, oJ4 (p0a 6) ta1 tk1 tn1 tw1, Wt] : List va_W)) 2 rfl hm0)
      refine va_get (D := (dC, dI)) (ci := 16) (v := .int 6) (C := RX14) (T := TX14) (N := 4) hx hb hts i_X14 hown hK hP j0 hj0 rfl 0 (by decide) (hts _ qw1617) (fun _ h9 => h9) rfl dX13_print___1 ?_
      refine lv_tableIn (off := 157) (tgt := 161) hx hb dX13_print___4 (by decide) (by decide) rfl (by decide) ?_
      refine lv_aload_n hx hb dX13_print___161 rfl (lv_at hl 0 rfl) ?_
      have hT9 := hT
      obtain ⟨ta1, tk1, tn1, tw1, hP, hD, hK, hS, hsb1⟩ := hT9
      refine va_get (D := (dC, dI)) (ci := 14) (v := .ref (p0a 6)) (C := RX13) (T := TX13) (N := 13) hx hb hts i_X13 hown hK hP 0 rfl rfl 5 (by decide) (hts _ qw1618) (fun _ h9 => h9) rfl dX13_print___162 ?_
      refine va_ldcS hx hb hown (zp_st hE 23 _ rfl).2 dX13_print___165 ?_
      refine tx_apS (l := l) (x := ([40] : List Int32)) (b := 0) (t0 := t.length) (N := bs.length) ⟨hx, hb, hml, hown, hts⟩ hE hA hT (st9_q (zp_st hE) 23 _ rfl) rfl (fun j _ => rfl) (asc_of (by decide)) (Or.inl (by decide)) (Nat.add_zero _).symm (by omega) hL hR9 dX13_print___167 hl.1 (Nat.le_of_ble_eq_true rfl) (fun H locs hT => ?_)
      refine lv_pop hx hb dX13_print___170 rfl ?_
      refine lv_aload_n hx hb dX13_print___171 rfl (lv_at hl 0 rfl) ?_
      refine lv_aload_n hx hb dX13_print___172 rfl (lv_at hl 1 rfl) ?_
      have hT9 := hT
      obtain ⟨ta1, tk1, tn1, tw1, hP, hD, hK, hS, hsb1⟩ := hT9
      obtain ⟨j0, hj0⟩ := List.getElem?_of_mem (fl_mem (L := ([mdO p0a p0w, oJ4 (p0a 6) ta1 tk1 tn1 tw1, Wt] : List va_W)) 2 rfl hm0)
      refine va_get (D := (dC, dI)) (ci := 16) (v := .ref a1) (C := RX14) (T := TX14) (N := 4) hx hb hts i_X14 hown hK hP j0 hj0 rfl 2 (by decide) (hts _ qw1621) (fun _ h9 => h9) rfl dX13_print___173 ?_
      refine tx_pr (l := l) (b := (0 + ([40] : List Int32).length)) (t0 := t.length) (N := bs.length) ⟨hx, hb, hml, hown, hts⟩ hE hA hT (ih _ _ hx1) (fun _ _ => cwV 1 hts (gi_V qw1625 qw1622 qw1623 qw1566 (gi_z qw1624)) rfl rfl rfl (by decide +kernel) ⟨rmF9, rmL9 (n := 21) (Nat.le_of_ble_eq_true rfl)⟩) (by simp only [List.length_append]; omega) (by omega) hL hR9.2.2 dX13_print___176 hl.1 (Nat.le_of_ble_eq_true rfl) (fun H locs hT => ?_)
      refine lv_aload_n hx hb dX13_print___179 rfl (lv_at hl 0 rfl) ?_
      have hT9 := hT
      obtain ⟨ta1, tk1, tn1, tw1, hP, hD, hK, hS, hsb1⟩ := hT9
      refine va_get (D := (dC, dI)) (ci := 14) (v := .ref (p0a 6)) (C := RX13) (T := TX13) (N := 13) hx hb hts i_X13 hown hK hP 0 rfl rfl 5 (by decide) (hts _ qw1618) (fun _ h9 => h9) rfl dX13_print___180 ?_
      refine lv_aload_n hx hb dX13_print___183 rfl (lv_at hl 1 rfl) ?_
      have hT9 := hT
      obtain ⟨ta1, tk1, tn1, tw1, hP, hD, hK, hS, hsb1⟩ := hT9
      obtain ⟨j0, hj0⟩ := List.getElem?_of_mem (fl_mem (L := ([mdO p0a p0w, oJ4 (p0a 6) ta1 tk1 tn1 tw1, Wt] : List va_W)) 2 rfl hm0)
      refine va_get (D := (dC, dI)) (ci := 16) (v := .int 6) (C := RX14) (T := TX14) (N := 4) hx hb hts i_X14 hown hK hP j0 hj0 rfl 0 (by decide) (hts _ qw1617) (fun _ h9 => h9) rfl dX13_print___184 ?_
      refine lv_iconst (v := 2) hx hb dX13_print___187 (by decide) ?_
      refine lv_icmp_ne (tgt := 202) hx hb dX13_print___188 (by decide) (fun _ => ?_) (fun c => absurd c (by decide))
      refine lv_aload_n hx hb dX13_print___202 rfl (lv_at hl 1 rfl) ?_
      have hT9 := hT
      obtain ⟨ta1, tk1, tn1, tw1, hP, hD, hK, hS, hsb1⟩ := hT9
      obtain ⟨j0, hj0⟩ := List.getElem?_of_mem (fl_mem (L := ([mdO p0a p0w, oJ4 (p0a 6) ta1 tk1 tn1 tw1, Wt] : List va_W)) 2 rfl hm0)
      refine va_get (D := (dC, dI)) (ci := 16) (v := .int 6) (C := RX14) (T := TX14) (N := 4) hx hb hts i_X14 hown hK hP j0 hj0 rfl 0 (by decide) (hts _ qw1617) (fun _ h9 => h9) rfl dX13_print___203 ?_
      refine lv_iconst (v := 5) hx hb dX13_print___206 (by decide) ?_
      refine lv_icmp_ne (tgt := 215) hx hb dX13_print___207 (by decide) (fun _ => ?_) (fun c => absurd c (by decide))
      refine va_ldcS hx hb hown (zp_st hE 25 _ rfl).2 dX13_print___215 ?_
      refine tx_apS (l := l) (x := ([124, 124] : List Int32)) (b := (0 + ([40] : List Int32).length + x1.length)) (t0 := t.length) (N := bs.length) ⟨hx, hb, hml, hown, hts⟩ hE hA hT (st9_q (zp_st hE) 25 _ rfl) rfl (fun j _ => rfl) (asc_of (by decide)) (Or.inl (by decide)) (by simp only [List.length_append]; omega) (by omega) hL hR9 dX13_print___217 hl.1 (Nat.le_of_ble_eq_true rfl) (fun H locs hT => ?_)
      refine lv_pop hx hb dX13_print___220 rfl ?_
      refine lv_aload_n hx hb dX13_print___221 rfl (lv_at hl 0 rfl) ?_
      refine lv_aload_n hx hb dX13_print___222 rfl (lv_at hl 1 rfl) ?_
      have hT9 := hT
      obtain ⟨ta1, tk1, tn1, tw1, hP, hD, hK, hS, hsb1⟩ := hT9
      obtain ⟨j0, hj0⟩ := List.getElem?_of_mem (fl_mem (L := ([mdO p0a p0w, oJ4 (p0a 6) ta1 tk1 tn1 tw1, Wt] : List va_W)) 2 rfl hm0)
      refine va_get (D := (dC, dI)) (ci := 16) (v := .ref a2) (C := RX14) (T := TX14) (N := 4) hx hb hts i_X14 hown hK hP j0 hj0 rfl 3 (by decide) (hts _ qw1627) (fun _ h9 => h9) rfl dX13_print___223 ?_
      refine tx_pr (l := l) (b := (0 + ([40] : List Int32).length + x1.length + ([124, 124] : List Int32).length)) (t0 := t.length) (N := bs.length) ⟨hx, hb, hml, hown, hts⟩ hE hA hT (ih _ _ hx2) (fun _ _ => cwV 1 hts (gi_V qw1625 qw1622 qw1623 qw1566 (gi_z qw1624)) rfl rfl rfl (by decide +kernel) ⟨rmF9, rmL9 (n := 21) (Nat.le_of_ble_eq_true rfl)⟩) (by simp only [List.length_append]; omega) (by omega) hL hR9.2.2 dX13_print___226 hl.1 (Nat.le_of_ble_eq_true rfl) (fun H locs hT => ?_)
      refine lv_aload_n hx hb dX13_print___229 rfl (lv_at hl 0 rfl) ?_
      have hT9 := hT
      obtain ⟨ta1, tk1, tn1, tw1, hP, hD, hK, hS, hsb1⟩ := hT9
      refine va_get (D := (dC, dI)) (ci := 14) (v := .ref (p0a 6)) (C := RX13) (T := TX13) (N := 13) hx hb hts i_X13 hown hK hP 0 rfl rfl 5 (by decide) (hts _ qw1618) (fun _ h9 => h9) rfl dX13_print___230 ?_
      refine va_ldcS hx hb hown (zp_st hE 21 _ rfl).2 dX13_print___233 ?_
      refine tx_apS (l := l) (x := ([41] : List Int32)) (b := (0 + ([40] : List Int32).length + x1.length + ([124, 124] : List Int32).length + x2.length)) (t0 := t.length) (N := bs.length) ⟨hx, hb, hml, hown, hts⟩ hE hA hT (st9_q (zp_st hE) 21 _ rfl) rfl (fun j _ => rfl) (asc_of (by decide)) (Or.inl (by decide)) (by simp only [List.length_append]; omega) (by omega) hL hR9 dX13_print___235 hl.1 (Nat.le_of_ble_eq_true rfl) (fun H locs hT => ?_)
      refine lv_pop hx hb dX13_print___238 rfl ?_
      obtain ⟨ta1, tk1, tn1, tw1, hP, hD, hK, hS, hsb1⟩ := hT
      have hbs8 : (t ++ ([40] : List Int32) ++ x1 ++ ([124, 124] : List Int32) ++ x2 ++ ([41] : List Int32)) = t ++ bs := by rw [hbs9]; simp only [List.append_assoc]
      rw [hbs8] at hsb1
      subst hQ
      refine W.widen (k := pcl t.length bs.length) (n := psl t.length bs.length) (Nat.le_trans (Nat.le_of_eq (Nat.zero_add _)) (pcl_m (by omega)).1) (Nat.le_trans (Nat.le_of_eq (Nat.zero_add _)) (pcl_m (by omega)).2) ?_
      exact W.vret hx hb hr (fun u ht hW => ⟨⟨(), rfl, trivial, ta1, tk1, tn1, tw1, hsb1, by rw [ht]; exact hP, va_K.moved hW.alike hK, hD⟩, hS.F ht⟩) hS.2.2 dX13_print___239
theorem kX13_pp (l : Launch) (aK aV : Nat → Nat) (aN aO dOv dTv : Nat) (Wt : va_W) (Tt : List (ClassId × FieldType)) : ∀ (D r : Nat) (bs : List Int32), ph9 Wt D r bs → PR9 l aK aV aN aO dOv dTv yX13_print__ (wz yX13_print__ cX13_print__ 2 (Option.none : Option Jvm.ClassFile.FieldType)) (8 * D) (400 * D) Wt Tt (.ref r) bs := by
  intro D
  induction D with
  | zero => intro r bs h; exact h.elim
  | succ D ih => exact fun r bs h => kX13_pp_s l aK aV aN aO dOv dTv Wt Tt (8 * D) (400 * D) D ih r bs h
