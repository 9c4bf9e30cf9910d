/-! pure side, the maker 6: ways that are split; layBlocks, whole -/
section SW
variable {K : Nat} {w0 v0 : ST} {fl : List Nat} {wy : Nat → Nat} {pr : Nat → Nat → Prop}
theorem pt_lr_lt {c : Nat} {v : ST} {pb : Prop} {r b p : Nat} (hr : w0 (r - 1) p < 0 ∨ ∃ q : Nat, q < 640 ∧ w0 (r - 1) p = pu_I q) (hC : fl.length ≤ c) (h : pt_lr w0 fl wy c v pb r b p) : v r b = -1 ∨ ∃ s, s < c ∧ v r b = pu_I s := by
  rcases hr with h0 | ⟨q, q1, q2⟩
  · exact Or.inl (h.1 h0)
  · obtain ⟨t, t1, t2, t3⟩ := h.2 q q1 q2
    have ht := (List.getElem?_eq_some_iff.mp t1).1
    by_cases hb : pb ∧ pt_s1 (w0 (r - 1)) (w0 10) wy p = 1
    · obtain ⟨s, _, s2, s3, _⟩ := t3 hb
      exact Or.inr ⟨s, s2, s3⟩
    · exact Or.inr ⟨t, by omega, t2 hb⟩
theorem pv_splitWay10 {c b p : Nat} {w v : ST} (hb : pt_lb K w0 fl wy) (hC : fl.length ≤ c) (hw : pt_lw w0 fl fl.length c w) (hv : pt_lv w0 fl wy v0 pr fl.length c v) (hbC : b < fl.length) (hp : fl[b]? = some p) (hfk : ¬ w0 10 p < 0) (hnp : ¬ pr b 10) (hc : c + pt_s1 (w0 9) (w0 10) wy p ≤ 60) :
    ∃ w' v', fX4_splitWay_a3_p1_9 w v (pu_I b) = some (1, w', v') ∧ pt_lw w0 fl fl.length (c + pt_s1 (w0 9) (w0 10) wy p) w' ∧ pt_lv w0 fl wy v0 (fun b' r' => pr b' r' ∨ (b' = b ∧ r' = 10)) fl.length (c + pt_s1 (w0 9) (w0 10) wy p) v' ∧ v' 8 b = v 8 b := by
  obtain ⟨⟨hK0, hK, hc5⟩, ⟨hnd, hlt, h00⟩, hF, hG, h14, h11, hwy, hcl⟩ := id hb
  have hpm : p ∈ fl := List.mem_iff_getElem?.mpr ⟨b, hp⟩
  have hpK := hlt p hpm
  have hfg : ∀ z, z < K → ∀ r, r = 10 ∨ r = 11 → w0 (r - 1) z < 0 ∨ ∃ q : Nat, q < 640 ∧ w0 (r - 1) z = pu_I q := by
    intro z hz r hr
    rcases hr with rfl | rfl
    · rcases hF z hz with h | ⟨q, q1, q2⟩
      · exact Or.inl h
      · exact Or.inr ⟨q, by omega, q2⟩
    · rcases hG z hz with h | ⟨q, q1, q2⟩
      · exact Or.inl h
      · exact Or.inr ⟨q, by omega, q2⟩
  have h60b : ixb (pu_I b) 60 = true := (pu_ix (by omega)).mpr (by omega)
  have hbn : nn (pu_I b) = b := pu_nn (by omega)
  obtain ⟨z1, z2, z3⟩ := hv.2.2.1 b p hbC hp
  have hlr : pt_lr w0 fl wy c v (pr b 10) 10 b p := z2
  -- nothing to split: the same as before
  have hsame : pt_s1 (w0 9) (w0 10) wy p = 0 → pt_lw w0 fl fl.length (c + pt_s1 (w0 9) (w0 10) wy p) w ∧ pt_lv w0 fl wy v0 (fun b' r' => pr b' r' ∨ (b' = b ∧ r' = 10)) fl.length (c + pt_s1 (w0 9) (w0 10) wy p) v := by
    intro h0
    rw [h0]
    refine ⟨hw, hv.1, hv.2.1, fun b' z hb' hz => ?_, hv.2.2.2⟩
    obtain ⟨y1, y2, y3⟩ := hv.2.2.1 b' z hb' hz
    have key : ∀ r, pt_lr w0 fl wy c v (pr b' r) r b' z → (r = 10 → b' = b → pt_s1 (w0 (r - 1)) (w0 10) wy z = 0) → pt_lr w0 fl wy c v (pr b' r ∨ (b' = b ∧ r = 10)) r b' z := by
      rintro r ⟨g1, g2⟩ hz0
      refine ⟨g1, fun q hq he => ?_⟩
      obtain ⟨t, t1, t2, t3⟩ := g2 q hq he
      have hiff : ((pr b' r ∨ (b' = b ∧ r = 10)) ∧ pt_s1 (w0 (r - 1)) (w0 10) wy z = 1) → (pr b' r ∧ pt_s1 (w0 (r - 1)) (w0 10) wy z = 1) := by
        rintro ⟨h | h, h2⟩
        · exact ⟨h, h2⟩
        · rw [hz0 h.2 h.1] at h2
          cases h2
      exact ⟨t, t1, fun h => t2 fun h2 => h ⟨Or.inl h2.1, h2.2⟩, fun h => t3 (hiff h)⟩
    have hz0 : ∀ r, r = 10 → b' = b → pt_s1 (w0 (r - 1)) (w0 10) wy z = 0 := by
      intro r hr he
      rw [he, hp] at hz
      injection hz with hz
      rw [hr, ← hz]
      exact h0
    exact ⟨y1, key 10 y2 (hz0 10), key 11 y3 (hz0 11)⟩
  by_cases hx : w0 9 p < 0
  · have h0 : pt_s1 (w0 9) (w0 10) wy p = 0 := if_neg fun h => h.2.1 hx
    have hvr : v 10 b = -1 := hlr.1 hx
    refine ⟨w, v, ?_, (hsame h0).1, (hsame h0).2, rfl⟩
    unfold fX4_splitWay_a3_p1_9 fX4_splitWay_a3_p1_9_J26
    rw [if_pos h60b, hbn, hvr, if_pos (by decide)]
  · obtain ⟨q, q1, q2⟩ := (hfg p hpK 10 (by decide)).resolve_left hx
    have q2 : w0 9 p = pu_I q := q2
    obtain ⟨t, t1, t2, _⟩ := hlr.2 q q1 q2
    have htC := (List.getElem?_eq_some_iff.mp t1).1
    have hvr : v 10 b = pu_I t := t2 fun h => hnp h.1
    have hqK : q < K := hlt q (List.mem_iff_getElem?.mpr ⟨t, t1⟩)
    have h15 : w 15 t = pu_I q := hw.2.1 t q htC t1
    have hwq : w 11 q = pu_I (wy q) := by rw [hw.1 11 (by decide)]; exact h11 q hqK
    have hs1 : pt_s1 (w0 9) (w0 10) wy p = if 2 ≤ wy q then 1 else 0 := by
      unfold pt_s1
      rw [q2, pu_nn (by omega)]
      by_cases h2 : 2 ≤ wy q
      · rw [if_pos ⟨(by first | exact hfk | exact pu_ge (by omega)), pu_ge (by omega), h2⟩, if_pos h2]
      · rw [if_neg fun h => h2 h.2.2, if_neg h2]
    have hw2 := hwy q
    have hle2 : (2 : Int32) ≤ pu_I (wy q) ↔ 2 ≤ wy q := pu_le (a := 2) (by decide) (by omega)
    have hstart : fX4_splitWay_a3_p1_9 w v (pu_I b) = (if (2 : Int32) ≤ pu_I (wy q) then (if (v 0 0) < 60 then (if ixb (v 0 0) 60 = true then (lt9 (upw w 15 (nn (v 0 0)) (-1)) fun (w8 : ST) => ((fX1_addBlock v 22 (-1) (pu_I t) (-1)).bind fun (o_9 : Int32 × ST) => (if ixb (pu_I b) 60 = true then (lt9 (upw (o_9.2) 10 b (o_9.1)) fun (w12 : ST) => some (1, w8, w12)) else none))) else none) else some (0, w, v)) else some (1, w, v)) := by
      unfold fX4_splitWay_a3_p1_9 fX4_splitWay_a3_p1_9_J26
      rw [if_pos h60b, hbn, hvr, if_neg (pu_ge (by omega)), if_pos ((pu_ix (by omega)).mpr (by omega)), pu_nn (show t < 2147483648 by omega), h15, if_pos ((pu_ix (by omega)).mpr (by omega)), pu_nn (show q < 2147483648 by omega), hwq]
    by_cases h2 : 2 ≤ wy q
    · rw [if_pos h2] at hs1
      rw [hs1] at hc ⊢
      obtain ⟨v', c1, c2, c3, c4, c5⟩ := pv_addBlock hv.1.1 (show c < 60 by omega) 22 (-1) (pu_I t) (-1)
      have hbc : b ≠ c := by omega
      have hold : ∀ r i, r ≠ 0 → i ≠ c → (r ≠ 10 ∨ i ≠ b) → upw v' 10 b (pu_I c) r i = v r i := by
        intro r i hr hi h
        rw [pv_upw, if_neg fun e => h.elim (fun h => h e.1) (fun h => h e.2)]
        exact c4 r i hr (Or.inl hi)
      have hnew : ∀ r, r ≠ 10 ∨ c ≠ b → upw v' 10 b (pu_I c) r c = v' r c := fun r _ => by rw [pv_upw, if_neg fun e => hbc e.2.symm]
      have hvb : upw v' 10 b (pu_I c) 10 b = pu_I c := by rw [pv_upw, if_pos ⟨rfl, rfl⟩]
      have hall : ∀ b' r, b' < fl.length → (r = 10 ∨ r = 11) → v r b' = -1 ∨ ∃ s, s < c ∧ v r b' = pu_I s := by
        intro b' r hb' hr
        obtain ⟨z, hz⟩ : ∃ z, fl[b']? = some z := ⟨fl[b'], List.getElem?_eq_some_iff.mpr ⟨hb', rfl⟩⟩
        have hzK := hlt z (List.mem_iff_getElem?.mpr ⟨b', hz⟩)
        obtain ⟨_, y2, y3⟩ := hv.2.2.1 b' z hb' hz
        rcases hr with rfl | rfl
        · exact pt_lr_lt (hfg z hzK 10 (Or.inl rfl)) hC y2
        · exact pt_lr_lt (hfg z hzK 11 (Or.inr rfl)) hC y3
      refine ⟨upw w 15 c (-1), upw v' 10 b (pu_I c), ?_, ⟨fun r hr => by rw [pv_upw_n hr, hw.1 r hr], fun b' z hb' hz => ?_, fun s s1 s2 => ?_⟩, ⟨⟨by rw [pv_upw_n (by decide)]; exact c2, fun i hi => by rw [pv_upw_n (by decide), c3 i hi]; exact hv.1.2 i hi⟩, fun b' hb' => ?_, fun b' z hb' hz => ?_, fun s s1 s2 => ?_⟩, hold 8 b (by decide) hbc (Or.inl (by decide))⟩
      · rw [hstart, if_pos (hle2.mpr h2), hv.1.1, if_pos (show pu_I c < (60 : Int32) from (pu_lt (b := 60) (by omega) (by decide)).mpr (by omega)), if_pos ((pu_ix (by omega)).mpr (by omega)), pu_nn (by omega)]
        simp only [lt9]
        rw [c1, Option.bind_some, if_pos h60b]
      · rw [pv_upw, if_neg fun e => by omega]
        exact hw.2.1 b' z hb' hz
      · rw [pv_upw]
        by_cases e : s = c
        · rw [if_pos ⟨rfl, e⟩]
        · rw [if_neg fun h => e h.2]
          exact hw.2.2 s s1 (by omega)
      · by_cases e : b' = c
        · rw [e, hnew 4 (Or.inl (by decide)), hnew 5 (Or.inl (by decide)), hnew 6 (Or.inl (by decide)), hnew 7 (Or.inl (by decide)), hnew 9 (Or.inl (by decide))]
          exact ⟨c5.1, c5.2.1, c5.2.2.1, c5.2.2.2.1, c5.2.2.2.2.2.1⟩
        · rw [hold 4 b' (by decide) e (Or.inl (by decide)), hold 5 b' (by decide) e (Or.inl (by decide)), hold 6 b' (by decide) e (Or.inl (by decide)), hold 7 b' (by decide) e (Or.inl (by decide)), hold 9 b' (by decide) e (Or.inl (by decide))]
          exact hv.2.1 b' (by omega)
      · obtain ⟨y1, y2, y3⟩ := hv.2.2.1 b' z hb' hz
        have hb'c : b' ≠ c := by omega
        have key : ∀ r, (r = 10 ∨ r = 11) → pt_lr w0 fl wy c v (pr b' r) r b' z → pt_lr w0 fl wy (c + 1) (upw v' 10 b (pu_I c)) (pr b' r ∨ (b' = b ∧ r = 10)) r b' z := by
          rintro r hr ⟨g1, g2⟩
          have hr0 : r ≠ 0 := by omega
          by_cases e : b' = b ∧ r = 10
          · obtain ⟨e1, e2⟩ := e
            subst e2
            subst e1
            rw [hp] at hz
            injection hz with hz
            subst hz
            refine ⟨fun h => absurd h hx, fun q' hq' he => ?_⟩
            have he : w0 9 p = pu_I q' := he
            have hqq := pu_inj (by omega) (by omega) (q2.symm.trans he)
            subst hqq
            refine ⟨t, t1, fun h => absurd ⟨Or.inr ⟨rfl, rfl⟩, hs1⟩ h, fun _ => ⟨c, hC, by omega, hvb, ?_⟩⟩
            rw [hnew 10 (Or.inr hbc.symm)]
            exact c5.2.2.2.2.2.2.1
          · have hne : r ≠ 10 ∨ b' ≠ b := by
              by_cases e2 : r = 10
              · exact Or.inr fun e1 => e ⟨e1, e2⟩
              · exact Or.inl e2
            rw [show upw v' 10 b (pu_I c) = upw v' 10 b (pu_I c) from rfl]
            refine ⟨fun h => by rw [hold r b' hr0 hb'c hne]; exact g1 h, fun q' hq' he => ?_⟩
            obtain ⟨t', u1, u2, u3⟩ := g2 q' hq' he
            refine ⟨t', u1, fun h => ?_, fun h => ?_⟩
            · rw [hold r b' hr0 hb'c hne]
              exact u2 fun h2 => h ⟨Or.inl h2.1, h2.2⟩
            · obtain ⟨s, s1, s2, s3, s4⟩ := u3 ⟨h.1.resolve_right e, h.2⟩
              refine ⟨s, s1, by omega, by rw [hold r b' hr0 hb'c hne]; exact s3, ?_⟩
              rw [hold 10 s (by decide) (by omega) (Or.inr (by omega))]
              exact s4
        exact ⟨by rw [hold 8 b' (by decide) hb'c (Or.inl (by decide))]; exact y1, key 10 (Or.inl rfl) y2, key 11 (Or.inr rfl) y3⟩
      · by_cases e : s = c
        · subst e
          refine ⟨by rw [hnew 8 (Or.inl (by decide))]; exact c5.2.2.2.2.1, by rw [hnew 11 (Or.inr hbc.symm)]; exact c5.2.2.2.2.2.2.2, ⟨t, htC, by rw [hnew 10 (Or.inr hbc.symm)]; exact c5.2.2.2.2.2.2.1⟩, fun b1 b2 r1 r2 hb1 hb2 hr1 hr2 e1 e2 => ?_⟩
          have hmine : ∀ b1 r1, b1 < fl.length → (r1 = 10 ∨ r1 = 11) → upw v' 10 b (pu_I s) r1 b1 = pu_I s → b1 = b ∧ r1 = 10 := by
            intro b1 r1 hb1 hr1 e1
            by_cases h : b1 = b ∧ r1 = 10
            · exact h
            · exfalso
              have hne : r1 ≠ 10 ∨ b1 ≠ b := by
                by_cases e2 : r1 = 10
                · exact Or.inr fun e1 => h ⟨e1, e2⟩
                · exact Or.inl e2
              rw [hold r1 b1 (by omega) (by omega) hne] at e1
              rcases hall b1 r1 hb1 hr1 with h9 | ⟨s', h8, h9⟩
              · rw [h9] at e1
                have := pu_ge (k := s) (by omega)
                rw [← e1] at this
                exact this (by decide)
              · have := pu_inj (by omega) (by omega) (h9.symm.trans e1)
                omega
          have m1 := hmine b1 r1 hb1 hr1 e1
          have m2 := hmine b2 r2 hb2 hr2 e2
          exact ⟨m1.1.trans m2.1.symm, m1.2.trans m2.2.symm⟩
        · obtain ⟨y1, y2, ⟨t', y3, y4⟩, y5⟩ := hv.2.2.2 s s1 (by omega)
          have hsb : s ≠ b := by omega
          refine ⟨by rw [hold 8 s (by decide) e (Or.inl (by decide))]; exact y1, by rw [hold 11 s (by decide) e (Or.inr hsb)]; exact y2, ⟨t', y3, by rw [hold 10 s (by decide) e (Or.inr hsb)]; exact y4⟩, fun b1 b2 r1 r2 hb1 hb2 hr1 hr2 e1 e2 => ?_⟩
          have hback : ∀ b1 r1, b1 < fl.length → (r1 = 10 ∨ r1 = 11) → upw v' 10 b (pu_I c) r1 b1 = pu_I s → v r1 b1 = pu_I s := by
            intro b1 r1 hb1 hr1 e1
            by_cases h : b1 = b ∧ r1 = 10
            · rw [h.1, h.2, hvb] at e1
              exact absurd (pu_inj (by omega) (by omega) e1).symm e
            · have hne : r1 ≠ 10 ∨ b1 ≠ b := by
                by_cases e2 : r1 = 10
                · exact Or.inr fun e1 => h ⟨e1, e2⟩
                · exact Or.inl e2
              rw [hold r1 b1 (by omega) (by omega) hne] at e1
              exact e1
          exact y5 b1 b2 r1 r2 hb1 hb2 hr1 hr2 (hback b1 r1 hb1 hr1 e1) (hback b2 r2 hb2 hr2 e2)
    · rw [if_neg h2] at hs1
      refine ⟨w, v, ?_, (hsame hs1).1, (hsame hs1).2, rfl⟩
      rw [hstart, if_neg fun h => h2 (hle2.mp h)]
theorem pv_splitWay11 {c b p : Nat} {w v : ST} (hb : pt_lb K w0 fl wy) (hC : fl.length ≤ c) (hw : pt_lw w0 fl fl.length c w) (hv : pt_lv w0 fl wy v0 pr fl.length c v) (hbC : b < fl.length) (hp : fl[b]? = some p) (hfk : ¬ w0 10 p < 0) (hnp : ¬ pr b 11) (hc : c + pt_s1 (w0 10) (w0 10) wy p ≤ 60) :
    ∃ w' v', fX4_splitWay_a3_p1_10 w v (pu_I b) = some (1, w', v') ∧ pt_lw w0 fl fl.length (c + pt_s1 (w0 10) (w0 10) wy p) w' ∧ pt_lv w0 fl wy v0 (fun b' r' => pr b' r' ∨ (b' = b ∧ r' = 11)) fl.length (c + pt_s1 (w0 10) (w0 10) wy p) v' ∧ v' 8 b = v 8 b := by
  obtain ⟨⟨hK0, hK, hc5⟩, ⟨hnd, hlt, h00⟩, hF, hG, h14, h11, hwy, hcl⟩ := id hb
  have hpm : p ∈ fl := List.mem_iff_getElem?.mpr ⟨b, hp⟩
  have hpK := hlt p hpm
  have hfg : ∀ z, z < K → ∀ r, r = 10 ∨ r = 11 → w0 (r - 1) z < 0 ∨ ∃ q : Nat, q < 640 ∧ w0 (r - 1) z = pu_I q := by
    intro z hz r hr
    rcases hr with rfl | rfl
    · rcases hF z hz with h | ⟨q, q1, q2⟩
      · exact Or.inl h
      · exact Or.inr ⟨q, by omega, q2⟩
    · rcases hG z hz with h | ⟨q, q1, q2⟩
      · exact Or.inl h
      · exact Or.inr ⟨q, by omega, q2⟩
  have h60b : ixb (pu_I b) 60 = true := (pu_ix (by omega)).mpr (by omega)
  have hbn : nn (pu_I b) = b := pu_nn (by omega)
  obtain ⟨z1, z2, z3⟩ := hv.2.2.1 b p hbC hp
  have hlr : pt_lr w0 fl wy c v (pr b 11) 11 b p := z3
  -- nothing to split: the same as before
  have hsame : pt_s1 (w0 10) (w0 10) wy p = 0 → pt_lw w0 fl fl.length (c + pt_s1 (w0 10) (w0 10) wy p) w ∧ pt_lv w0 fl wy v0 (fun b' r' => pr b' r' ∨ (b' = b ∧ r' = 11)) fl.length (c + pt_s1 (w0 10) (w0 10) wy p) v := by
    intro h0
    rw [h0]
    refine ⟨hw, hv.1, hv.2.1, fun b' z hb' hz => ?_, hv.2.2.2⟩
    obtain ⟨y1, y2, y3⟩ := hv.2.2.1 b' z hb' hz
    have key : ∀ r, pt_lr w0 fl wy c v (pr b' r) r b' z → (r = 11 → b' = b → pt_s1 (w0 (r - 1)) (w0 10) wy z = 0) → pt_lr w0 fl wy c v (pr b' r ∨ (b' = b ∧ r = 11)) r b' z := by
      rintro r ⟨g1, g2⟩ hz0
      refine ⟨g1, fun q hq he => ?_⟩
      obtain ⟨t, t1, t2, t3⟩ := g2 q hq he
      have hiff : ((pr b' r ∨ (b' = b ∧ r = 11)) ∧ pt_s1 (w0 (r - 1)) (w0 10) wy z = 1) → (pr b' r ∧ pt_s1 (w0 (r - 1)) (w0 10) wy z = 1) := by
        rintro ⟨h | h, h2⟩
        · exact ⟨h, h2⟩
        · rw [hz0 h.2 h.1] at h2
          cases h2
      exact ⟨t, t1, fun h => t2 fun h2 => h ⟨Or.inl h2.1, h2.2⟩, fun h => t3 (hiff h)⟩
    have hz0 : ∀ r, r = 11 → b' = b → pt_s1 (w0 (r - 1)) (w0 10) wy z = 0 := by
      intro r hr he
      rw [he, hp] at hz
      injection hz with hz
      rw [hr, ← hz]
      exact h0
    exact ⟨y1, key 10 y2 (hz0 10), key 11 y3 (hz0 11)⟩
  by_cases hx : w0 10 p < 0
  · have h0 : pt_s1 (w0 10) (w0 10) wy p = 0 := if_neg fun h => h.2.1 hx
    have hvr : v 11 b = -1 := hlr.1 hx
    refine ⟨w, v, ?_, (hsame h0).1, (hsame h0).2, rfl⟩
    unfold fX4_splitWay_a3_p1_10 fX4_splitWay_a3_p1_10_J26
    rw [if_pos h60b, hbn, hvr, if_pos (by decide)]
  · obtain ⟨q, q1, q2⟩ := (hfg p hpK 11 (by decide)).resolve_left hx
    have q2 : w0 10 p = pu_I q := q2
    obtain ⟨t, t1, t2, _⟩ := hlr.2 q q1 q2
    have htC := (List.getElem?_eq_some_iff.mp t1).1
    have hvr : v 11 b = pu_I t := t2 fun h => hnp h.1
    have hqK : q < K := hlt q (List.mem_iff_getElem?.mpr ⟨t, t1⟩)
    have h15 : w 15 t = pu_I q := hw.2.1 t q htC t1
    have hwq : w 11 q = pu_I (wy q) := by rw [hw.1 11 (by decide)]; exact h11 q hqK
    have hs1 : pt_s1 (w0 10) (w0 10) wy p = if 2 ≤ wy q then 1 else 0 := by
      unfold pt_s1
      rw [q2, pu_nn (by omega)]
      by_cases h2 : 2 ≤ wy q
      · rw [if_pos ⟨(by first | exact hfk | exact pu_ge (by omega)), pu_ge (by omega), h2⟩, if_pos h2]
      · rw [if_neg fun h => h2 h.2.2, if_neg h2]
    have hw2 := hwy q
    have hle2 : (2 : Int32) ≤ pu_I (wy q) ↔ 2 ≤ wy q := pu_le (a := 2) (by decide) (by omega)
    have hstart : fX4_splitWay_a3_p1_10 w v (pu_I b) = (if (2 : Int32) ≤ pu_I (wy q) then (if (v 0 0) < 60 then (if ixb (v 0 0) 60 = true then (lt9 (upw w 15 (nn (v 0 0)) (-1)) fun (w8 : ST) => ((fX1_addBlock v 22 (-1) (pu_I t) (-1)).bind fun (o_9 : Int32 × ST) => (if ixb (pu_I b) 60 = true then (lt9 (upw (o_9.2) 11 b (o_9.1)) fun (w12 : ST) => some (1, w8, w12)) else none))) else none) else some (0, w, v)) else some (1, w, v)) := by
      unfold fX4_splitWay_a3_p1_10 fX4_splitWay_a3_p1_10_J26
      rw [if_pos h60b, hbn, hvr, if_neg (pu_ge (by omega)), if_pos ((pu_ix (by omega)).mpr (by omega)), pu_nn (show t < 2147483648 by omega), h15, if_pos ((pu_ix (by omega)).mpr (by omega)), pu_nn (show q < 2147483648 by omega), hwq]
    by_cases h2 : 2 ≤ wy q
    · rw [if_pos h2] at hs1
      rw [hs1] at hc ⊢
      obtain ⟨v', c1, c2, c3, c4, c5⟩ := pv_addBlock hv.1.1 (show c < 60 by omega) 22 (-1) (pu_I t) (-1)
      have hbc : b ≠ c := by omega
      have hold : ∀ r i, r ≠ 0 → i ≠ c → (r ≠ 11 ∨ i ≠ b) → upw v' 11 b (pu_I c) r i = v r i := by
        intro r i hr hi h
        rw [pv_upw, if_neg fun e => h.elim (fun h => h e.1) (fun h => h e.2)]
        exact c4 r i hr (Or.inl hi)
      have hnew : ∀ r, r ≠ 11 ∨ c ≠ b → upw v' 11 b (pu_I c) r c = v' r c := fun r _ => by rw [pv_upw, if_neg fun e => hbc e.2.symm]
      have hvb : upw v' 11 b (pu_I c) 11 b = pu_I c := by rw [pv_upw, if_pos ⟨rfl, rfl⟩]
      have hall : ∀ b' r, b' < fl.length → (r = 10 ∨ r = 11) → v r b' = -1 ∨ ∃ s, s < c ∧ v r b' = pu_I s := by
        intro b' r hb' hr
        obtain ⟨z, hz⟩ : ∃ z, fl[b']? = some z := ⟨fl[b'], List.getElem?_eq_some_iff.mpr ⟨hb', rfl⟩⟩
        have hzK := hlt z (List.mem_iff_getElem?.mpr ⟨b', hz⟩)
        obtain ⟨_, y2, y3⟩ := hv.2.2.1 b' z hb' hz
        rcases hr with rfl | rfl
        · exact pt_lr_lt (hfg z hzK 10 (Or.inl rfl)) hC y2
        · exact pt_lr_lt (hfg z hzK 11 (Or.inr rfl)) hC y3
      refine ⟨upw w 15 c (-1), upw v' 11 b (pu_I c), ?_, ⟨fun r hr => by rw [pv_upw_n hr, hw.1 r hr], fun b' z hb' hz => ?_, fun s s1 s2 => ?_⟩, ⟨⟨by rw [pv_upw_n (by decide)]; exact c2, fun i hi => by rw [pv_upw_n (by decide), c3 i hi]; exact hv.1.2 i hi⟩, fun b' hb' => ?_, fun b' z hb' hz => ?_, fun s s1 s2 => ?_⟩, hold 8 b (by decide) hbc (Or.inl (by decide))⟩
      · rw [hstart, if_pos (hle2.mpr h2), hv.1.1, if_pos (show pu_I c < (60 : Int32) from (pu_lt (b := 60) (by omega) (by decide)).mpr (by omega)), if_pos ((pu_ix (by omega)).mpr (by omega)), pu_nn (by omega)]
        simp only [lt9]
        rw [c1, Option.bind_some, if_pos h60b]
      · rw [pv_upw, if_neg fun e => by omega]
        exact hw.2.1 b' z hb' hz
      · rw [pv_upw]
        by_cases e : s = c
        · rw [if_pos ⟨rfl, e⟩]
        · rw [if_neg fun h => e h.2]
          exact hw.2.2 s s1 (by omega)
      · by_cases e : b' = c
        · rw [e, hnew 4 (Or.inl (by decide)), hnew 5 (Or.inl (by decide)), hnew 6 (Or.inl (by decide)), hnew 7 (Or.inl (by decide)), hnew 9 (Or.inl (by decide))]
          exact ⟨c5.1, c5.2.1, c5.2.2.1, c5.2.2.2.1, c5.2.2.2.2.2.1⟩
        · rw [hold 4 b' (by decide) e (Or.inl (by decide)), hold 5 b' (by decide) e (Or.inl (by decide)), hold 6 b' (by decide) e (Or.inl (by decide)), hold 7 b' (by decide) e (Or.inl (by decide)), hold 9 b' (by decide) e (Or.inl (by decide))]
          exact hv.2.1 b' (by omega)
      · obtain ⟨y1, y2, y3⟩ := hv.2.2.1 b' z hb' hz
        have hb'c : b' ≠ c := by omega
        have key : ∀ r, (r = 10 ∨ r = 11) → pt_lr w0 fl wy c v (pr b' r) r b' z → pt_lr w0 fl wy (c + 1) (upw v' 11 b (pu_I c)) (pr b' r ∨ (b' = b ∧ r = 11)) r b' z := by
          rintro r hr ⟨g1, g2⟩
          have hr0 : r ≠ 0 := by omega
          by_cases e : b' = b ∧ r = 11
          · obtain ⟨e1, e2⟩ := e
            subst e2
            subst e1
            rw [hp] at hz
            injection hz with hz
            subst hz
            refine ⟨fun h => absurd h hx, fun q' hq' he => ?_⟩
            have he : w0 10 p = pu_I q' := he
            have hqq := pu_inj (by omega) (by omega) (q2.symm.trans he)
            subst hqq
            refine ⟨t, t1, fun h => absurd ⟨Or.inr ⟨rfl, rfl⟩, hs1⟩ h, fun _ => ⟨c, hC, by omega, hvb, ?_⟩⟩
            rw [hnew 10 (Or.inr hbc.symm)]
            exact c5.2.2.2.2.2.2.1
          · have hne : r ≠ 11 ∨ b' ≠ b := by
              by_cases e2 : r = 11
              · exact Or.inr fun e1 => e ⟨e1, e2⟩
              · exact Or.inl e2
            rw [show upw v' 11 b (pu_I c) = upw v' 11 b (pu_I c) from rfl]
            refine ⟨fun h => by rw [hold r b' hr0 hb'c hne]; exact g1 h, fun q' hq' he => ?_⟩
            obtain ⟨t', u1, u2, u3⟩ := g2 q' hq' he
            refine ⟨t', u1, fun h => ?_, fun h => ?_⟩
            · rw [hold r b' hr0 hb'c hne]
              exact u2 fun h2 => h ⟨Or.inl h2.1, h2.2⟩
            · obtain ⟨s, s1, s2, s3, s4⟩ := u3 ⟨h.1.resolve_right e, h.2⟩
              refine ⟨s, s1, by omega, by rw [hold r b' hr0 hb'c hne]; exact s3, ?_⟩
              rw [hold 10 s (by decide) (by omega) (Or.inr (by omega))]
              exact s4
        exact ⟨by rw [hold 8 b' (by decide) hb'c (Or.inl (by decide))]; exact y1, key 10 (Or.inl rfl) y2, key 11 (Or.inr rfl) y3⟩
      · by_cases e : s = c
        · subst e
          refine ⟨by rw [hnew 8 (Or.inl (by decide))]; exact c5.2.2.2.2.1, by rw [hnew 11 (Or.inr hbc.symm)]; exact c5.2.2.2.2.2.2.2, ⟨t, htC, by rw [hnew 10 (Or.inr hbc.symm)]; exact c5.2.2.2.2.2.2.1⟩, fun b1 b2 r1 r2 hb1 hb2 hr1 hr2 e1 e2 => ?_⟩
          have hmine : ∀ b1 r1, b1 < fl.length → (r1 = 10 ∨ r1 = 11) → upw v' 11 b (pu_I s) r1 b1 = pu_I s → b1 = b ∧ r1 = 11 := by
            intro b1 r1 hb1 hr1 e1
            by_cases h : b1 = b ∧ r1 = 11
            · exact h
            · exfalso
              have hne : r1 ≠ 11 ∨ b1 ≠ b := by
                by_cases e2 : r1 = 11
                · exact Or.inr fun e1 => h ⟨e1, e2⟩
                · exact Or.inl e2
              rw [hold r1 b1 (by omega) (by omega) hne] at e1
              rcases hall b1 r1 hb1 hr1 with h9 | ⟨s', h8, h9⟩
              · rw [h9] at e1
                have := pu_ge (k := s) (by omega)
                rw [← e1] at this
                exact this (by decide)
              · have := pu_inj (by omega) (by omega) (h9.symm.trans e1)
                omega
          have m1 := hmine b1 r1 hb1 hr1 e1
          have m2 := hmine b2 r2 hb2 hr2 e2
          exact ⟨m1.1.trans m2.1.symm, m1.2.trans m2.2.symm⟩
        · obtain ⟨y1, y2, ⟨t', y3, y4⟩, y5⟩ := hv.2.2.2 s s1 (by omega)
          have hsb : s ≠ b := by omega
          refine ⟨by rw [hold 8 s (by decide) e (Or.inl (by decide))]; exact y1, by rw [hold 11 s (by decide) e (Or.inr hsb)]; exact y2, ⟨t', y3, by rw [hold 10 s (by decide) e (Or.inr hsb)]; exact y4⟩, fun b1 b2 r1 r2 hb1 hb2 hr1 hr2 e1 e2 => ?_⟩
          have hback : ∀ b1 r1, b1 < fl.length → (r1 = 10 ∨ r1 = 11) → upw v' 11 b (pu_I c) r1 b1 = pu_I s → v r1 b1 = pu_I s := by
            intro b1 r1 hb1 hr1 e1
            by_cases h : b1 = b ∧ r1 = 11
            · rw [h.1, h.2, hvb] at e1
              exact absurd (pu_inj (by omega) (by omega) e1).symm e
            · have hne : r1 ≠ 11 ∨ b1 ≠ b := by
                by_cases e2 : r1 = 11
                · exact Or.inr fun e1 => h ⟨e1, e2⟩
                · exact Or.inl e2
              rw [hold r1 b1 (by omega) (by omega) hne] at e1
              exact e1
          exact y5 b1 b2 r1 r2 hb1 hb2 hr1 hr2 (hback b1 r1 hb1 hr1 e1) (hback b2 r2 hb2 hr2 e2)
    · rw [if_neg h2] at hs1
      refine ⟨w, v, ?_, (hsame hs1).1, (hsame hs1).2, rfl⟩
      rw [hstart, if_neg fun h => h2 (hle2.mp h)]
end SW
