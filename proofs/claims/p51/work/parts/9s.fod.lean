/-! pure side, stores 49: fold, whole -/
theorem pu_eqL_ssa {F F' : pu_Flow} {L : Nat → Prop} {D : Nat → Nat → Prop} (h : ∀ b, L b → F' b = F b) (hS : pu_ssa F L D) : pu_ssa F' L D := by
  have hG := hS.2.1
  have hU := hS.2.2.2.2.1
  have hbl : ∀ b, L b → pu_bl F' b = pu_bl F b := fun b hb => by unfold pu_bl; rw [h b hb]
  have hsc : ∀ b c, L b → (pu_sc F' b c ↔ pu_sc F b c) := fun b c hb => by unfold pu_sc; rw [h b hb]
  have hav : ∀ b a v, L b → pu_av F D b a v → pu_av F' D b a v := by
    intro b a v hb hv
    rcases hv with h1 | h1 | ⟨d, h1, h2, h3⟩
    · exact Or.inl (by rw [h b hb]; exact h1)
    · exact Or.inr (Or.inl h1)
    · exact Or.inr (Or.inr ⟨d, h1, h2, by rw [hbl d (hG.2.1 b d hb h2).2]; exact h3⟩)
  refine ⟨hS.1, ⟨fun b c hb hs => hG.1 b c hb ((hsc b c hb).mp hs), hG.2.1, hG.2.2.1, hG.2.2.2.1, fun b c d hb hs => hG.2.2.2.2 b c d hb ((hsc b c hb).mp hs)⟩, ?_, ?_, ⟨?_, ?_⟩, ?_, ?_, ?_⟩
  · rw [h 0 hS.1]; exact hS.2.2.1
  · intro b hb s hs
    rw [h b hb] at hs
    exact hS.2.2.2.1 b hb s hs
  · intro b hb
    rw [hbl b hb]; exact hU.1 b hb
  · intro b c v hb hc h1 h2
    rw [hbl b hb] at h1
    rw [hbl c hc] at h2
    exact hU.2 b c v hb hc h1 h2
  · intro b l1 s l2 hb hl
    rw [h b hb] at hl
    have h9 := hS.2.2.2.2.2.1 b l1 s l2 hb hl
    exact ⟨fun h8 => hav b _ _ hb (h9.1 h8), fun h8 => hav b _ _ hb (h9.2 h8)⟩
  · intro b hb he
    rw [h b hb] at he ⊢
    exact hav b _ _ hb (hS.2.2.2.2.2.2.1 b hb he)
  · intro b c p hb hs hp
    have hs := (hsc b c hb).mp hs
    rw [h c (hG.1 b c hb hs)] at hp
    rw [h b hb]
    exact hav b _ _ hb (hS.2.2.2.2.2.2.2 b c p hb hs hp)
/-- flows alike where blocks are: what can be reached is the same -/
theorem pu_rch_eq {F F' : pu_Flow} {B : Nat} (hB : 0 < B) (h : ∀ b, b < B → F' b = F b) (hc : ∀ b c, b < B → pu_sc F b c → c < B) : pu_rch F' = pu_rch F := by
  have hlt : ∀ b, pu_rch F b → b < B := fun b hb => hb (fun b => b < B) hB fun b c hb hs => hc b c hb hs
  have hsc : ∀ b c, b < B → (pu_sc F' b c ↔ pu_sc F b c) := fun b c hb => by unfold pu_sc; rw [h b hb]
  funext b
  refine propext ⟨fun hb => ?_, fun hb => ?_⟩
  · exact hb (pu_rch F) (pu_rch_0 F) fun b c hb hs => pu_rch_s hb ((hsc b c (hlt b hb)).mp hs)
  · refine (hb (fun b => pu_rch F' b ∧ b < B) ⟨pu_rch_0 F', hB⟩ fun b c hb hs => ⟨pu_rch_s hb.1 ((hsc b c hb.2).mpr hs), hc b c hb.2 hs⟩).1
theorem pv_sl_sm {ch : Nat → List Nat} : ∀ b, pv_sl ch b = pv_sm (fun c => (ch c).length) b := by
  intro b
  induction b with
  | zero => rfl
  | succ b ih => exact congrArg (· + (ch b).length) ih
/-- the flow's blocks, folded as far as so many -/
def pv_f82 (B k : Nat) (x : Int64) (g w w2 : ST) (ch ph : Nat → List Nat) (w' w2' : ST) (ch' ph' : Nat → List Nat) : Prop :=
  ∀ c, c < B → (c < k ∧ pv_bt x c = true → ph' c = (ph c).filter (fun a => !pv_kn9 g w a) ∧ (ch' c).map (pv_S w2') = (pv_fob g w w2 ch ph c).2.1 ∧ (w' 8 c, w' 9 c, w' 10 c, w' 11 c) = (pv_fob g w w2 ch ph c).2.2) ∧
    (¬ (c < k ∧ pv_bt x c = true) → ph' c = ph c ∧ ch' c = ch c ∧ (ch c).map (pv_S w2') = (ch c).map (pv_S w2) ∧ w' 8 c = w 8 c ∧ w' 9 c = w 9 c ∧ w' 10 c = w 10 c ∧ w' 11 c = w 11 c)
section FD
variable {B N M Lm fs na : Nat} {D : Nat → Nat → Prop} {l gl : SL} {g w w2 s : ST} {n n2 : Nat → Nat} {ch ph : Nat → List Nat} {wb dm : Nat → Nat}
theorem pv_fo82 {o17 : ST × SL} (hok : pv_ok n w n2 w2 B N M ch ph) (hopv : ∀ b, b < B → ∀ a ∈ ch b, pu_isop (w2 2 a) = true → ixb (w2 3 a) 250 = true) (hev : ∀ b, b < B → w 8 b = 23 → ixb (w 9 b) 250 = true) (hpl : ∀ b, b < B → (ph b).length ≤ 250) (hpot : N + pv_sl ph B ≤ 650) (hcn : pv_cn n2 w2 N) :
    ∃ cnt w' w2' n2' N' ch' ph', fX5_foldNumbers_L82 n o17 NF 0 0 w w2 n2 = some (pu_I cnt, w', w2', n2') ∧ cnt ≤ 60 * 2000 ∧ pv_cn n2' w2' N' ∧ N' + pv_sl ph' B ≤ N + pv_sl ph B ∧ N ≤ N' ∧ pv_stc B w' w2' ch' ∧ pv_dis B N' ch' ∧ pv_phc B w' ph' ∧ pv_dis B M ph' ∧
      pv_f82 B B (o17.2 0 7) o17.1 w w2 ch ph w' w2' ch' ph' ∧ (∀ r, r ≠ 4 → r ≠ 5 → r ≠ 6 → r ≠ 7 → r ≠ 8 → r ≠ 9 → r ≠ 10 → r ≠ 11 → r ≠ 20 → w' r = w r) ∧ (∀ r, r ≠ 0 → r ≠ 2 → r ≠ 3 → r ≠ 4 → r ≠ 5 → r ≠ 6 → w2' r = w2 r) ∧
      (cnt = 0 → ∀ c, c < B → pv_bt (o17.2 0 7) c = true → (ph c).filter (pv_kn9 o17.1 w) = [] ∧ (ch c).filter (pv_tf9 o17.1 w2) = [] ∧ ¬ (w 8 c = 23 ∧ o17.1 4 (nn (w 9 c)) = 1)) := by
  obtain ⟨⟨hw0, hB0, hB⟩, ⟨hN2, hN3, hN4, hN5, hN6, hN⟩, ⟨hM19, hM20, hM21, hM⟩, hstc, hdis, hphc, hdp, hix, hix2⟩ := id hok
  have hsl := pv_sl_le hdis
  obtain ⟨t, e1, h9⟩ := pv_for (G := fun k x (t : Int32 × ST × ST × (Nat → Nat)) => fX5_foldNumbers_L82 n o17 k t.1 x t.2.1 t.2.2.1 t.2.2.2) (hi := B)
    (Inv := fun k (t : Int32 × ST × ST × (Nat → Nat)) => ∃ cnt N' ch' ph', t.1 = pu_I cnt ∧ cnt ≤ k * 2000 ∧ pv_cn t.2.2.2 t.2.2.1 N' ∧ N' + pv_sl ph' B = N + pv_sl ph B ∧ N ≤ N' ∧ pv_stc B t.2.1 t.2.2.1 ch' ∧ pv_dis B N' ch' ∧ pv_phc B t.2.1 ph' ∧ pv_dis B M ph' ∧
      pv_f82 B k (o17.2 0 7) o17.1 w w2 ch ph t.2.1 t.2.2.1 ch' ph' ∧ (∀ r, r ≠ 4 → r ≠ 5 → r ≠ 6 → r ≠ 7 → r ≠ 8 → r ≠ 9 → r ≠ 10 → r ≠ 11 → r ≠ 20 → t.2.1 r = w r) ∧ (∀ r, r ≠ 0 → r ≠ 2 → r ≠ 3 → r ≠ 4 → r ≠ 5 → r ≠ 6 → t.2.2.1 r = w2 r) ∧
      (cnt = 0 → ∀ c, c < k → pv_bt (o17.2 0 7) c = true → (ph c).filter (pv_kn9 o17.1 w) = [] ∧ (ch c).filter (pv_tf9 o17.1 w2) = [] ∧ ¬ (w 8 c = 23 ∧ o17.1 4 (nn (w 9 c)) = 1)))
    (Q := fun t : Int32 × ST × ST × (Nat → Nat) => ∃ cnt N' ch' ph', t.1 = pu_I cnt ∧ cnt ≤ B * 2000 ∧ pv_cn t.2.2.2 t.2.2.1 N' ∧ N' + pv_sl ph' B = N + pv_sl ph B ∧ N ≤ N' ∧ pv_stc B t.2.1 t.2.2.1 ch' ∧ pv_dis B N' ch' ∧ pv_phc B t.2.1 ph' ∧ pv_dis B M ph' ∧
      pv_f82 B B (o17.2 0 7) o17.1 w w2 ch ph t.2.1 t.2.2.1 ch' ph' ∧ (∀ r, r ≠ 4 → r ≠ 5 → r ≠ 6 → r ≠ 7 → r ≠ 8 → r ≠ 9 → r ≠ 10 → r ≠ 11 → r ≠ 20 → t.2.1 r = w r) ∧ (∀ r, r ≠ 0 → r ≠ 2 → r ≠ 3 → r ≠ 4 → r ≠ 5 → r ≠ 6 → t.2.2.1 r = w2 r) ∧
      (cnt = 0 → ∀ c, c < B → pv_bt (o17.2 0 7) c = true → (ph c).filter (pv_kn9 o17.1 w) = [] ∧ (ch c).filter (pv_tf9 o17.1 w2) = [] ∧ ¬ (w 8 c = 23 ∧ o17.1 4 (nn (w 9 c)) = 1)))
    (fun m k t hk hI => by
      obtain ⟨cnt, N', ch', ph', i0, i1, ⟨i2, R, iR, iNR, iR2⟩, i3, i3b, i4, i5, i6, i7, i8, i9, i10, i11⟩ := hI
      have h00 : t.2.1 0 = w 0 := i9 0 (by decide) (by decide) (by decide) (by decide) (by decide) (by decide) (by decide) (by decide) (by decide)
      have hform : fX5_foldNumbers_L82 n o17 (m + 1) t.1 (pu_I k) t.2.1 t.2.2.1 t.2.2.2 = (if pv_b (pv_bt (o17.2 0 7) k) = 0 then fX5_foldNumbers_L82 n o17 m t.1 (pu_I (k + 1)) t.2.1 t.2.2.1 t.2.2.2 else ((fX5_foldBlock o17.1 n t.2.1 (pu_I k) t.2.2.2 t.2.2.1).bind fun (o_16 : Int32 × ST × ST × (Nat → Nat)) => fX5_foldNumbers_L82 n o17 m (t.1 + o_16.1) (pu_I (k + 1)) o_16.2.1 o_16.2.2.1 o_16.2.2.2)) := by
        show (if (t.2.1 0 0) ≤ pu_I k then some (t.1, t.2.1, t.2.2.1, t.2.2.2) else ((fX11_holds ((o17.2) 0 7) (pu_I k)).bind fun (o_13 : Int32) => (if o_13 = 0 then (fX5_foldNumbers_J113 (fX5_foldNumbers_L82 n o17 m) (pu_I k) t.1 t.2.1 t.2.2.1 t.2.2.2) else ((fX5_foldBlock (o17.1) n t.2.1 (pu_I k) t.2.2.2 t.2.2.1).bind fun (o_16 : Int32 × ST × ST × (Nat → Nat)) => (fX5_foldNumbers_G111_28 (fX5_foldNumbers_L82 n o17 m) t.1 (pu_I k) o_16))))) = _
        unfold fX5_foldNumbers_G111_28 fX5_foldNumbers_J113
        rw [h00, hw0, if_neg (by rw [pu_le (by omega) (by omega)]; omega), pv_holds (by omega), Option.bind_some, pu_su]
      rw [hform]
      cases hbt : pv_bt (o17.2 0 7) k with
      | false =>
        rw [if_pos (by decide)]
        refine ⟨t, rfl, cnt, N', ch', ph', i0, Nat.le_trans i1 (Nat.mul_le_mul_right _ (Nat.le_succ k)), ⟨i2, R, iR, iNR, iR2⟩, i3, i3b, i4, i5, i6, i7, fun c hc => ⟨fun h => ?_, fun h => ?_⟩, i9, i10, fun h0 c hck hcb => ?_⟩
        · refine (i8 c hc).1 ⟨?_, h.2⟩
          by_cases e : c = k
          · rw [e, hbt] at h; cases h.2
          · omega
        · exact (i8 c hc).2 fun q => h ⟨by omega, q.2⟩
        · by_cases e : c = k
          · rw [e, hbt] at hcb; cases hcb
          · exact i11 h0 c (by omega) hcb
      | true =>
        rw [if_neg (by decide)]
        obtain ⟨u1, u2, u3, u4, u5, u6, u7⟩ := (i8 k hk).2 fun q => by omega
        have r19 : t.2.1 19 = w 19 := i9 19 (by decide) (by decide) (by decide) (by decide) (by decide) (by decide) (by decide) (by decide) (by decide)
        have hkn : pv_kn9 o17.1 t.2.1 = pv_kn9 o17.1 w := by funext a; unfold pv_kn9; rw [r19]
        -- steps of the block as they were
        have hSk : ∀ a ∈ ch k, pv_S t.2.2.1 a = pv_S w2 a := by
          intro a ha
          exact List.map_inj_left.mp u3 a ha
        have hS2 : ∀ a ∈ ch k, t.2.2.1 2 a = w2 2 a ∧ t.2.2.1 3 a = w2 3 a := fun a ha => ⟨congrArg (fun s : pu_Stp => s.1) (hSk a ha), congrArg (fun s : pu_Stp => s.2.1) (hSk a ha)⟩
        have hsl' := pv_sl_le i5
        have hmem : pv_sl ph' B ≥ 0 := Nat.zero_le _
        obtain ⟨c, w', w2', n2', R', N2, ch2, ph2, f1, f2, f3, f4, f5, f6, f7, f8, f9, f10, f11, f12, f13, f14, f15, f16, f17, f18, f19, f20, f21⟩ := pv_foldBlock (g := o17.1) (n := n) hB hM19 hM20 hM hk (w := t.2.1) (w2 := t.2.2.1) (n2 := t.2.2.2) (N := N') (R := R) (ch := ch') (ph := ph') i2 iR iNR (by omega) (by omega) i4 i5 i6 i7 (by rw [u1, r19]; exact hix k hk) (by
          rw [u2]
          intro a ha
          rw [(hS2 a ha).1, (hS2 a ha).2]
          exact hopv k hk a ha) (by rw [u4, u5]; exact hev k hk) (by rw [u1]; exact hpl k hk)
        have htf : (ch k).filter (pv_tf9 o17.1 t.2.2.1) = (ch k).filter (pv_tf9 o17.1 w2) := List.filter_congr fun a ha => by unfold pv_tf9; rw [(hS2 a ha).1, (hS2 a ha).2]
        rw [u1, hkn] at f7 f13
        rw [u1, u2, hkn, u4, u5, htf] at f21
        have hfobs : (pv_fob o17.1 t.2.1 t.2.2.1 ch' ph' k).2.1 = (pv_fob o17.1 w w2 ch ph k).2.1 := by
          show ((ph' k).filter (pv_kn9 o17.1 t.2.1)).map (pv_nu9 o17.1 t.2.1) ++ (ch' k).map _ = ((ph k).filter (pv_kn9 o17.1 w)).map (pv_nu9 o17.1 w) ++ (ch k).map _
          rw [u1, u2, hkn]
          have e1 : pv_nu9 o17.1 t.2.1 = pv_nu9 o17.1 w := by funext a; unfold pv_nu9; rw [r19]
          rw [e1]
          refine congrArg _ (List.map_congr_left fun a ha => ?_)
          unfold pv_tf9
          rw [(hS2 a ha).1, (hS2 a ha).2, hSk a ha]
        have hfobe : (pv_fob o17.1 t.2.1 t.2.2.1 ch' ph' k).2.2 = (pv_fob o17.1 w w2 ch ph k).2.2 := by
          show pu_fen _ _ (t.2.1 8 k, t.2.1 9 k, t.2.1 10 k, t.2.1 11 k) = _
          rw [u4, u5, u6, u7]
          rfl
        rw [hfobs] at f14
        rw [hfobe] at f15
        rw [f1, Option.bind_some]
        have hlen1 : ((ph k).filter (pv_kn9 o17.1 w)).length ≤ (ph k).length := List.length_filter_le _ _
        have hlen2 : ((ch k).filter (pv_tf9 o17.1 w2)).length ≤ (ch k).length := List.length_filter_le _ _
        have hlen3 : (ch k).length ≤ N := pv_len N (ch k) (hdis.2.1 k hk) (hdis.1 k hk)
        have hsplit : ∀ l : List Nat, (l.filter (pv_kn9 o17.1 w)).length + (l.filter (fun a => !pv_kn9 o17.1 w a)).length = l.length := by
          intro l
          induction l with
          | nil => rfl
          | cons a l ih =>
            rw [List.filter_cons, List.filter_cons]
            cases pv_kn9 o17.1 w a with
            | true =>
              show (l.filter (pv_kn9 o17.1 w)).length + 1 + (l.filter (fun a => !pv_kn9 o17.1 w a)).length = l.length + 1
              omega
            | false =>
              show (l.filter (pv_kn9 o17.1 w)).length + ((l.filter (fun a => !pv_kn9 o17.1 w a)).length + 1) = l.length + 1
              omega
        have hslu : pv_sl ph' B = pv_sl ph2 B + ((ph k).filter (pv_kn9 o17.1 w)).length := by
          rw [pv_sl_sm, pv_sl_sm]
          refine pv_sm_up (x := k) (fun i hi => ?_) ?_ B hk
          · show (ph' i).length = (ph2 i).length
            rw [(f12 i hi).2]
          · show (ph' k).length = (ph2 k).length + _
            rw [f13, u1]
            have := hsplit (ph k)
            omega
        have hcle : c ≤ 2000 := by
          have h1 := hpl k hk
          have h2 : (if w 8 k = 23 ∧ o17.1 4 (nn (w 9 k)) = 1 then 1 else 0) ≤ 1 := by split <;> omega
          omega
        have hR'8 : R' ≤ 256 ∨ R' ≤ N2 + N2 / 2 + 1 := by
          rcases f6 with h | h
          · rcases iR2 with h9 | h9
            · exact Or.inl (by omega)
            · exact Or.inr (by omega)
          · exact Or.inr h
        refine ⟨(pu_I (cnt + c), w', w2', n2'), ?_, cnt + c, N2, ch2, ph2, rfl, by omega, ⟨f2, R', f4, f5, hR'8⟩, by omega, by omega, f8, f9, f10, f11, fun c9 hc9 => ⟨fun h => ?_, fun h => ?_⟩, fun r r4 r5 r6 r7 r8 r9 r10 r11 r20 => (f17 r r4 r5 r6 r7 r8 r9 r10 r11 r20).trans (i9 r r4 r5 r6 r7 r8 r9 r10 r11 r20), fun r r0 r2 r3 r4 r5 r6 => (f19 r r0 r2 r3 r4 r5 r6).trans (i10 r r0 r2 r3 r4 r5 r6), fun h0 c9 hc9 hcb => ?_⟩
        · rw [i0, pv_add]
        · by_cases e : c9 = k
          · rw [e]
            exact ⟨f13, f14, f15⟩
          · obtain ⟨v1, v2, v3⟩ := (i8 c9 hc9).1 ⟨by omega, h.2⟩
            have h12 := f12 c9 e
            have h16 := f16 c9 e
            refine ⟨by rw [h12.2]; exact v1, ?_, ?_⟩
            · rw [h12.1, ← v2]
              refine List.map_congr_left fun a ha => ?_
              have haN := i5.1 c9 hc9 a ha
              have hak : a ∉ ch' k := fun hx => e (i5.2.2 c9 k a hc9 hk ha hx)
              show pv_S w2' a = pv_S t.2.2.1 a
              unfold pv_S
              rw [f18 2 a (by decide) (by decide) haN hak, f18 3 a (by decide) (by decide) haN hak, f18 4 a (by decide) (by decide) haN hak, f18 5 a (by decide) (by decide) haN hak]
            · rw [← v3]
              show (w' 8 c9, w' 9 c9, w' 10 c9, w' 11 c9) = (t.2.1 8 c9, t.2.1 9 c9, t.2.1 10 c9, t.2.1 11 c9)
              rw [h16.1, h16.2.1, h16.2.2.1, h16.2.2.2]
        · have e : c9 ≠ k := fun e => h ⟨by omega, by rw [e]; exact hbt⟩
          obtain ⟨v1, v2, v3, v4, v5, v6, v7⟩ := (i8 c9 hc9).2 fun q => h ⟨by omega, q.2⟩
          have h12 := f12 c9 e
          have h16 := f16 c9 e
          refine ⟨by rw [h12.2]; exact v1, by rw [h12.1]; exact v2, ?_, by rw [← v4]; exact h16.1, by rw [← v5]; exact h16.2.1, by rw [← v6]; exact h16.2.2.1, by rw [← v7]; exact h16.2.2.2⟩
          rw [← v3]
          refine List.map_congr_left fun a ha => ?_
          rw [← v2] at ha
          have haN := i5.1 c9 hc9 a ha
          have hak : a ∉ ch' k := fun hx => e (i5.2.2 c9 k a hc9 hk ha hx)
          show pv_S w2' a = pv_S t.2.2.1 a
          unfold pv_S
          rw [f18 2 a (by decide) (by decide) haN hak, f18 3 a (by decide) (by decide) haN hak, f18 4 a (by decide) (by decide) haN hak, f18 5 a (by decide) (by decide) haN hak]
        · have hc0 : c = 0 := by omega
          have hcnt0 : cnt = 0 := by omega
          by_cases e : c9 = k
          · rw [e]
            rw [hc0] at f21
            refine ⟨List.eq_nil_of_length_eq_zero (by omega), List.eq_nil_of_length_eq_zero (by omega), fun q => ?_⟩
            rw [if_pos q] at f21
            omega
          · exact i11 hcnt0 c9 (by omega) hcb)
    (fun m t hI => ⟨t, by
      obtain ⟨cnt, N', ch', ph', i0, i1, i2, i3, i3b, i4, i5, i6, i7, i8, i9, i10, i11⟩ := hI
      show (if (t.2.1 0 0) ≤ pu_I B then some (t.1, t.2.1, t.2.2.1, t.2.2.2) else _) = _
      rw [i9 0 (by decide) (by decide) (by decide) (by decide) (by decide) (by decide) (by decide) (by decide) (by decide), hw0, if_pos (Int32.le_refl _)], hI⟩)
    B 0 NF (0, w, w2, n2) (by omega) (by have := pv_NF; omega)
    ⟨0, N, ch, ph, rfl, by omega, hcn, rfl, Nat.le_refl _, hstc, hdis, hphc, hdp, fun c hc => ⟨fun h => by omega, fun _ => ⟨rfl, rfl, rfl, rfl, rfl, rfl, rfl⟩⟩, fun r _ _ _ _ _ _ _ _ _ => rfl, fun r _ _ _ _ _ _ => rfl, fun _ c hc => by omega⟩
  obtain ⟨cnt, N', ch', ph', i0, i1, i2, i3, i3b, i4, i5, i6, i7, i8, i9, i10, i11⟩ := h9
  refine ⟨cnt, t.2.1, t.2.2.1, t.2.2.2, N', ch', ph', ?_, Nat.le_trans i1 (Nat.mul_le_mul_right _ hB), i2, Nat.le_of_eq i3, i3b, i4, i5, i6, i7, i8, i9, i10, i11⟩
  rw [← i0]
  exact e1
end FD
