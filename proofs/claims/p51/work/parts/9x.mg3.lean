/-! pure side, stores 54: merge: one block taken in -/
theorem pv_bt_xor (x y : Int64) (j : Nat) : pv_bt (x ^^^ y) j = Bool.xor (pv_bt x j) (pv_bt y j) := by
  unfold pv_bt
  rw [Int64.toBitVec_xor, BitVec.getLsbD_xor]
theorem pv_bt_m1' : ∀ j : Fin 64, pv_bt (-1) j.val = true := by decide +kernel
theorem pv_bt_cl {x : Int64} {i j : Nat} (hi : i < 64) (hj : j < 64) : pv_bt (x &&& (((1 : Int64) <<< ((pu_I i).toInt64 &&& 63)) ^^^ ((-1) : Int64))) j = true ↔ pv_bt x j = true ∧ j ≠ i := by
  rw [pv_bt_and, pv_bt_xor, pv_bt_1 hi, pv_bt_m1' ⟨j, hj⟩]
  by_cases e : j = i
  · rw [decide_eq_true e]
    cases pv_bt x j with
    | false => exact ⟨fun h => (by cases h), fun h => (by cases h.1)⟩
    | true => exact ⟨fun h => (by cases h), fun h => absurd e h.2⟩
  · rw [decide_eq_false e]
    cases pv_bt x j with
    | false => exact ⟨fun h => (by cases h), fun h => (by cases h.1)⟩
    | true => exact ⟨fun _ => ⟨rfl, e⟩, fun _ => rfl⟩
section MI
variable {B N M : Nat} {n n2 : Nat → Nat} {L : Nat → Prop} {D : Nat → Nat → Prop}
theorem pv_mergeInto {g w w2 : ST} {l : SL} {ch ph : Nat → List Nat} {b gn q : Nat} (hB : B ≤ 60) (hN6 : N ≤ n2 6) (hN : N < 50000) (hM19 : M ≤ n 19) (hM20 : M ≤ n 20) (hM21 : M * 60 ≤ n 21) (hM : M < 50000)
    (hstc : pv_stc B w w2 ch) (hdis : pv_dis B N ch) (hphc : pv_phc B w ph) (hdp : pv_dis B M ph) (hb : b < B) (hg : gn < B) (hq : q < B) (hwf : fX1_wayFrom w (pu_I gn) 0 = some (pu_I q))
    (hsk : pv_sk g) (hS : pu_ssa (pv_Fs (pv_sgx g) w w2 ch ph) L D) (hLB : ∀ c, L c → c < B) (hbL : L b) (hgL : L gn) (h22 : w 8 b = 22) (h10 : w 10 b = pu_I gn) (hon : ∀ p, L p → pv_rsc w p gn → p = b) (hne : gn ≠ b) (hD : D gn b)
    (hix : ∀ a ∈ ph gn, ixb (w 19 a) 250 = true ∧ w 21 (a * 60 + b) = w 21 (a * 60 + q) ∧ ixb (w 21 (a * 60 + q)) 250 = true ∧ g 6 (nn (w 19 a)) < 0)
    (hek : pv_ek B w) (hsv : pv_sv B w) :
    ∃ g' w' w2', fX5_mergeInto g l n w (pu_I b) (pu_I gn) n2 w2 = some (g', upl l 0 7 (l 0 7 &&& (((1 : Int64) <<< ((pu_I gn).toInt64 &&& 63)) ^^^ ((-1) : Int64))), w', w2') ∧ pv_sk g' ∧
      pu_ssa (pv_Fs (pv_sgx g') w' w2' (pv_up (pv_up ch gn []) b (ch b ++ ch gn)) (pv_up ph gn [])) (fun c => L c ∧ c ≠ gn) (fun c d => D c d ∧ d ≠ gn) ∧
      (∀ call ar k e m q r, pu_run (pv_Fs (pv_sgx g) w w2 ch ph) call ar k 0 0 (e, m, q) = some r → pu_run (pv_Fs (pv_sgx g') w' w2' (pv_up (pv_up ch gn []) b (ch b ++ ch gn)) (pv_up ph gn [])) call ar k 0 0 (e, m, q) = some r) ∧
      (∀ v, (∀ a ∈ ph gn, v ≠ nn (w 19 a)) → g' 6 v = g 6 v) ∧
      (pv_stc B w' w2' (pv_up (pv_up ch gn []) b (ch b ++ ch gn)) ∧ pv_dis B N (pv_up (pv_up ch gn []) b (ch b ++ ch gn)) ∧ pv_phc B w' (pv_up ph gn []) ∧ pv_dis B M (pv_up ph gn [])) ∧
      (∀ r, r ≠ 4 → r ≠ 5 → r ≠ 6 → r ≠ 7 → r ≠ 8 → r ≠ 9 → r ≠ 10 → r ≠ 11 → r ≠ 21 → w' r = w r) ∧ (∀ r, r ≠ 6 → w2' r = w2 r) ∧
      (w' 8 b = w 8 gn ∧ w' 9 b = w 9 gn ∧ w' 10 b = w 10 gn ∧ w' 11 b = w 11 gn) ∧ (∀ c, c ≠ b → w' 8 c = w 8 c ∧ w' 9 c = w 9 c ∧ w' 10 c = w 10 c ∧ w' 11 c = w 11 c) ∧
      (∀ c, c < B → pv_eg w gn c → ∀ a ∈ pv_up ph gn [] c, w' 21 (a * 60 + b) = w 21 (a * 60 + gn)) ∧
      (∀ a p, p < 60 → p ≠ b → w' 21 (a * 60 + p) = w 21 (a * 60 + p)) := by
  have hU := hS.2.2.2.2.1
  have hsc : pv_rsc w b gn := by
    refine ⟨by rw [h22]; decide, Or.inl ?_⟩
    rw [h10, pu_nn (by omega)]
  have hinj : ∀ a ∈ ph gn, ∀ z ∈ ph gn, nn (w 19 a) = nn (w 19 z) → a = z := by
    intro a ha z hz e
    have hn := (List.nodup_append.mp (hU.1 gn hgL)).1
    have hn : (((ph gn).map (pv_Ps (pv_sgx g) w)).map Prod.fst).Nodup := hn
    rw [List.map_map] at hn
    exact pv_nodup_map (ph gn) hn a ha z hz (pv_nn_inj (pv_ixn (hix a ha).1).1 (pv_ixn (hix z hz).1).1 e)
  obtain ⟨w1, a1, a2, a3, a4⟩ := pv_takePhis (b := gn) hB hg hphc
  have hdp1 : pv_dis B M (pv_up ph gn []) := pv_dis_sub hdp fun _ => List.nil_sublist _
  obtain ⟨g', b1, b2, b3, b4, b5, b6⟩ := pv_mg15 (n := n) (M := M) (w := w) (w1 := w1) (w2 := w2) (ch := ch) (ph := ph) (b := b) (gn := gn) (q := q) (x0 := w 6 gn) (a3 19 (by decide) (by decide)) (a3 20 (by decide) (by decide)) (a3 21 (by decide) (by decide)) hbL hgL hsc hon hne hD (by omega) hM19 hM20 hM21 hM
    (ph gn) g NF (w 6 gn) (by have := pv_len M (ph gn) (hdp.2.1 gn hg) (hdp.1 gn hg); have := pv_NF; omega) (hphc.1 gn hg) hsk (by rw [pv_up_id (f := ph) (b := gn) rfl]; exact hS) (fun a ha => ⟨hdp.1 gn hg a ha, (hix a ha).1, (hix a ha).2.1, (hix a ha).2.2.1, (hix a ha).2.2.2⟩) (pv_nd_map _ (hdp.2.1 gn hg) hinj)
  rw [pv_up_id (f := ph) (b := gn) rfl] at b6
  have hst1 : pv_stc B w1 w2 ch := by
    unfold pv_stc
    rw [a3 4 (by decide) (by decide), a3 5 (by decide) (by decide)]
    exact hstc
  obtain ⟨w3, c1, c2, c3, c4⟩ := pv_takeSteps (b := gn) hB hg hst1
  have hcb : pv_up ch gn [] b = ch b := pv_up_n (fun e => hne e.symm)
  have hbase : pv_up (pv_up ch gn []) b (ch b) = pv_up ch gn [] := by
    have := pv_up_id (f := pv_up ch gn []) (b := b) rfl
    rw [hcb] at this
    exact this
  have hdis1 : pv_dis B N (pv_up ch gn []) := pv_dis_sub hdis fun _ => List.nil_sublist _
  obtain ⟨w4, w24, d1, d2, d3, d4, d5⟩ := pv_mg59 (B := B) (N := N) (n2 := n2) hB hb hN6 (by omega) (ch := pv_up ch gn []) (ch gn) (ch b) w3 w2 NF (w1 4 gn) (by have := pv_len N (ch gn) (hdis.2.1 gn hg) (hdis.1 gn hg); have := pv_NF; omega) (hst1.1 gn hg) (by rw [hbase]; exact c2) (by rw [hbase]; exact hdis1)
    (fun a ha => ⟨hdis.1 gn hg a ha, fun c hc h => by
      rw [hbase] at h
      by_cases e : c = gn
      · rw [e, pv_up_s] at h; cases h
      · rw [pv_up_n e] at h
        exact e (hdis.2.2 c gn a hc hg h ha)⟩) (hdis.2.1 gn hg)
  have hr4 : ∀ r, r ≠ 4 → r ≠ 5 → r ≠ 6 → r ≠ 7 → w4 r = w r := fun r r4 r5 r6 r7 => by rw [d4 r r4 r5, c3 r r4 r5, a3 r r6 r7]
  -- the four rows of the end
  obtain ⟨w5, hw5⟩ : ∃ w5, w5 = upw (upw (upw (upw w4 8 b (w4 8 gn)) 9 b (w4 9 gn)) 10 b (w4 10 gn)) 11 b (w4 11 gn) := ⟨_, rfl⟩
  have e5 : ∀ r, r ≠ 8 → r ≠ 9 → r ≠ 10 → r ≠ 11 → w5 r = w4 r := fun r h8 h9 h10 h11 => by rw [hw5, pv_upw_n h11, pv_upw_n h10, pv_upw_n h9, pv_upw_n h8]
  have e8 : ∀ c, w5 8 c = if c = b then w4 8 gn else w4 8 c := fun c => by
    rw [hw5, pv_upw_n (by decide), pv_upw_n (by decide), pv_upw_n (by decide), pv_upw]
    by_cases e : c = b
    · rw [if_pos ⟨rfl, e⟩, if_pos e]
    · rw [if_neg fun h => e h.2, if_neg e]
  have e9 : ∀ c, w5 9 c = if c = b then w4 9 gn else w4 9 c := fun c => by
    rw [hw5, pv_upw_n (by decide), pv_upw_n (by decide), pv_upw, pv_upw_n (by decide)]
    by_cases e : c = b
    · rw [if_pos ⟨rfl, e⟩, if_pos e]
    · rw [if_neg fun h => e h.2, if_neg e]
  have e10 : ∀ c, w5 10 c = if c = b then w4 10 gn else w4 10 c := fun c => by
    rw [hw5, pv_upw_n (by decide), pv_upw, pv_upw_n (by decide), pv_upw_n (by decide)]
    by_cases e : c = b
    · rw [if_pos ⟨rfl, e⟩, if_pos e]
    · rw [if_neg fun h => e h.2, if_neg e]
  have e11 : ∀ c, w5 11 c = if c = b then w4 11 gn else w4 11 c := fun c => by
    rw [hw5, pv_upw, pv_upw_n (by decide), pv_upw_n (by decide), pv_upw_n (by decide)]
    by_cases e : c = b
    · rw [if_pos ⟨rfl, e⟩, if_pos e]
    · rw [if_neg fun h => e h.2, if_neg e]
  have hph5 : pv_phc B w5 (pv_up ph gn []) := by
    unfold pv_phc
    rw [e5 6 (by decide) (by decide) (by decide) (by decide), e5 7 (by decide) (by decide) (by decide) (by decide), e5 20 (by decide) (by decide) (by decide) (by decide), d4 6 (by decide) (by decide), d4 7 (by decide) (by decide), d4 20 (by decide) (by decide), c3 6 (by decide) (by decide), c3 7 (by decide) (by decide), c3 20 (by decide) (by decide)]
    exact a2
  have h4r : w4 8 = w 8 ∧ w4 9 = w 9 ∧ w4 10 = w 10 ∧ w4 11 = w 11 ∧ w4 21 = w 21 ∧ w4 19 = w 19 := ⟨hr4 8 (by decide) (by decide) (by decide) (by decide), hr4 9 (by decide) (by decide) (by decide) (by decide), hr4 10 (by decide) (by decide) (by decide) (by decide), hr4 11 (by decide) (by decide) (by decide) (by decide), hr4 21 (by decide) (by decide) (by decide) (by decide), hr4 19 (by decide) (by decide) (by decide) (by decide)⟩
  have h510 : w5 10 b = w 10 gn := by rw [e10, if_pos rfl, h4r.2.2.1]
  have h511 : w5 11 b = w 11 gn := by rw [e11, if_pos rfl, h4r.2.2.2.1]
  have h521 : w5 21 = w 21 := by rw [e5 21 (by decide) (by decide) (by decide) (by decide), h4r.2.2.2.2.1]
  obtain ⟨w6, f1, f2, f3, f4⟩ := pv_takeFrom (n := n) (M := M) hB hM20 hM21 hM hb hg hne (w := w5) hph5 hdp1 (x := w5 10 b) (by rw [h510]; exact (hsv gn hg).1)
  have hph6 : pv_phc B w6 (pv_up ph gn []) := by
    unfold pv_phc
    rw [f2 6 (by decide), f2 7 (by decide), f2 20 (by decide)]
    exact hph5
  have h611 : w6 11 b = w 11 gn := by rw [f2 11 (by decide), h511]
  obtain ⟨w7, g1, g2, g3, g4⟩ := pv_takeFrom (n := n) (M := M) hB hM20 hM21 hM hb hg hne (w := w6) hph6 hdp1 (x := w6 11 b) (by rw [h611]; exact (hsv gn hg).2)
  have hcol : ∀ a p, p < 60 → p ≠ b → w7 21 (a * 60 + p) = w 21 (a * 60 + p) := by
    intro a p hp hpb
    rw [g4 _ fun c _ _ z _ e => hpb (by omega), f4 _ fun c _ _ z _ e => hpb (by omega), h521]
  have hcg : ∀ a, w6 21 (a * 60 + gn) = w 21 (a * 60 + gn) := by
    intro a
    rw [f4 _ fun c _ _ z _ e => hne (by omega), h521]
  have hto : ∀ c, c < B → pv_eg w gn c → ∀ a ∈ pv_up ph gn [] c, w7 21 (a * 60 + b) = w 21 (a * 60 + gn) := by
    intro c hc he a ha
    by_cases h : ∃ c', c' < B ∧ w6 11 b = pu_I c' ∧ a ∈ pv_up ph gn [] c'
    · obtain ⟨c', p1, p2, p3⟩ := h
      rw [g3 c' p1 p2 a p3, hcg]
    · have hk : ∀ c, c < B → w6 11 b = pu_I c → ∀ z ∈ pv_up ph gn [] c, a * 60 + b ≠ z * 60 + b := fun c' p1 p2 z hz e => h ⟨c', p1, p2, by rw [show a = z by omega]; exact hz⟩
      rw [g4 _ hk]
      rcases he with he | he
      · rw [f3 c hc (by rw [h510]; exact he) a ha, h521]
      · exact absurd ⟨c, hc, by rw [h611]; exact he, ha⟩ h
  have hr7 : ∀ r, r ≠ 21 → w7 r = w5 r := fun r hr => by rw [g2 r hr, f2 r hr]
  have hrb : w7 8 b = w 8 gn ∧ w7 9 b = w 9 gn ∧ w7 10 b = w 10 gn ∧ w7 11 b = w 11 gn := by
    rw [hr7 8 (by decide), hr7 9 (by decide), hr7 10 (by decide), hr7 11 (by decide), e8, e9, h510, h511, if_pos rfl, if_pos rfl, h4r.1, h4r.2.1]
    exact ⟨rfl, rfl, rfl, rfl⟩
  have hro : ∀ c, c ≠ b → w7 8 c = w 8 c ∧ w7 9 c = w 9 c ∧ w7 10 c = w 10 c ∧ w7 11 c = w 11 c := by
    intro c hc
    rw [hr7 8 (by decide), hr7 9 (by decide), hr7 10 (by decide), hr7 11 (by decide), e8, e9, e10, e11, if_neg hc, if_neg hc, if_neg hc, if_neg hc, h4r.1, h4r.2.1, h4r.2.2.1, h4r.2.2.2.1]
    exact ⟨rfl, rfl, rfl, rfl⟩
  have h19 : w7 19 = w 19 := by rw [hr7 19 (by decide), e5 19 (by decide) (by decide) (by decide) (by decide), h4r.2.2.2.2.2]
  obtain ⟨k1, k2⟩ := pv_mg_cc (σ := pv_sgx g') (w := w) (w2 := w2) (ch := ch) (ph := pv_up ph gn []) (b := b) (gn := gn) b3 hbL hgL h22 h10 (by omega) hon hne hD (pv_up_s _ _ _) (w' := w7) (w2' := w24) (ch' := pv_up (pv_up ch gn []) b (ch b ++ ch gn))
    (fun c hc hcg => by
      by_cases e : c = b
      · rw [e, pv_up_s, if_pos rfl]
      · rw [pv_up_n e, pv_up_n hcg, if_neg e]) d5 hrb hro h19
    (fun c hc _ hs a ha => hto c (hLB c hc) ((pv_eg_rs hek hg (by have := hLB c hc; omega)).mp hs) a ha) (fun c _ a _ p hp hpb => hcol a p hp hpb) (fun c hc => by have := hLB c hc; omega)
  refine ⟨g', w7, w24, ?_, b2, k1, fun call ar k e m q r h => k2 call ar k e m q r (b6 call ar k e m q r h), b5, ⟨?_, d3, ?_, hdp1⟩, fun r r4 r5 r6 r7 r8 r9 r10 r11 r21 => ?_, d5, hrb, hro, hto, hcol⟩
  · unfold fX5_mergeInto
    have h60b : ixb (pu_I b) 60 = true := (pu_ix (by omega)).mpr (by omega)
    have h60g : ixb (pu_I gn) 60 = true := (pu_ix (by omega)).mpr (by omega)
    have hbn : nn (pu_I b) = b := pu_nn (by omega)
    have hgn : nn (pu_I gn) = gn := pu_nn (by omega)
    have hx9 : (upw w4 8 b (w4 8 gn)) 9 gn = w4 9 gn := by rw [pv_upw_n (by decide)]
    have hx10 : (upw (upw w4 8 b (w4 8 gn)) 9 b (w4 9 gn)) 10 gn = w4 10 gn := by rw [pv_upw_n (by decide), pv_upw_n (by decide)]
    have hx11 : (upw (upw (upw w4 8 b (w4 8 gn)) 9 b (w4 9 gn)) 10 b (w4 10 gn)) 11 gn = w4 11 gn := by rw [pv_upw_n (by decide), pv_upw_n (by decide), pv_upw_n (by decide)]
    rw [hwf, Option.bind_some, a1, Option.bind_some, b1, Option.bind_some, c1, Option.bind_some, d1, Option.bind_some]
    simp only [lt9, if_pos h60b, if_pos h60g, hbn, hgn]
    rw [hx9, hx10, hx11, ← hw5, f1, Option.bind_some, g1]
    rfl
  · unfold pv_stc
    rw [hr7 4 (by decide), hr7 5 (by decide), e5 4 (by decide) (by decide) (by decide) (by decide), e5 5 (by decide) (by decide) (by decide) (by decide)]
    exact d2
  · unfold pv_phc
    rw [g2 6 (by decide), g2 7 (by decide), g2 20 (by decide)]
    exact hph6
  · rw [hr7 r r21, e5 r r8 r9 r10 r11, hr4 r r4 r5 r6 r7]
end MI
