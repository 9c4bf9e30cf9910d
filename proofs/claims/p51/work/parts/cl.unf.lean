/-! pure side, the allocator 18: all that may be united are -/
section UNF
variable {n n2 : Nat → Nat} {w fw x9 aw : ST} {l : SL} {B N V H wd : Nat} {qs : Nat → List Nat} {F0 : pu_Flow}
theorem pa_uf23 (has : pa_as F0 B N V H fw x9 n2 qs) (hgr : pg_gr B H V wd fw x9 qs n w l) (hW : ∀ v, pg_W H wd l 0 v → False) (hHV : H ≤ V) (hwd : wd = (H + 63) / 64) (hwd2 : wd ≤ 20) (hV2 : V ≤ 7110) {b : Nat} (hb : b < B) :
    ∀ (rem : List Nat) (k : Nat) (x : Int32), rem.length < k → pv_ch (x9 6) x rem → (∀ a ∈ rem, a ∈ qs b) →
      ∃ o, fX0_uniteFirst_L23 aw fw n2 x9 n w l k x = some o ∧ (o = .inr () ∨ ∃ fw' x9' qs', o = .inl (1, fw', x9') ∧ pa_as F0 B N V H fw' x9' n2 qs' ∧ pa_dn B H fw x9 qs fw' x9' qs') := by
  have hun := fun s g => pa_as_un has hgr hW (s := s) (g := g)
  obtain ⟨hfl, _, hnc, _⟩ := has
  obtain ⟨⟨w0, w1, w2⟩, hR, ⟨hcol, _⟩, hsym, _⟩ := hgr
  obtain ⟨_, _, r11, ⟨_, r13, _⟩, hc⟩ := hR
  obtain ⟨_, ⟨⟨n22, n23, n24, n25, n26⟩, hN, hV⟩, hst, hd, hstep, hend⟩ := hfl
  obtain ⟨_, _, _, _, _, c11, _, c13, _⟩ := hc
  have hHw : H ≤ wd * 64 := by omega
  intro rem
  induction rem with
  | nil =>
    intro k x hk hch _
    obtain ⟨k', rfl⟩ : ∃ k', k = k' + 1 := ⟨k - 1, by have : 0 < k := hk; omega⟩
    refine ⟨.inr (), ?_, Or.inl rfl⟩
    show (if x < 0 then some (Sum.inr ()) else _) = _
    rw [if_pos (pv_n1 hch)]
  | cons a rem ih =>
    intro k x hk hch hrem
    obtain ⟨k', rfl⟩ : ∃ k', k = k' + 1 := ⟨k - 1, by have : 0 < k := Nat.lt_of_le_of_lt (Nat.zero_le _) hk; omega⟩
    obtain ⟨rfl, hch⟩ := hch
    have haq := hrem a List.mem_cons_self
    have haN := hd.1 b hb a haq
    obtain ⟨_, s1, _, s3, _⟩ := hstep b hb a haq
    obtain ⟨o, h1, h2⟩ := ih k' (x9 6 a) (by have : rem.length + 1 < k' + 1 := hk; omega) hch fun z hz => hrem z (List.mem_cons_of_mem _ hz)
    have hn2 : ixb (pu_I a) (n2 2) = true := (pu_ix (by omega)).mpr (by omega)
    have hn3 : ixb (pu_I a) (n2 3) = true := (pu_ix (by omega)).mpr (by omega)
    have hn4 : ixb (pu_I a) (n2 4) = true := (pu_ix (by omega)).mpr (by omega)
    have hn6 : ixb (pu_I a) (n2 6) = true := (pu_ix (by omega)).mpr (by omega)
    have hJ : fX0_uniteFirst_J106 (fX0_uniteFirst_L23 aw fw n2 x9 n w l k') n2 x9 (pu_I a) = some o := by
      unfold fX0_uniteFirst_J106
      rw [if_pos hn6, pu_nn (by omega)]
      exact h1
    by_cases h25 : x9 2 a = 25
    · obtain ⟨g, hg, eg⟩ := s1 (by rw [h25]; decide)
      obtain ⟨s, hs, es⟩ := s3 (by rw [h25]; decide)
      have hne := hnc b hb a haq h25
      rw [eg, es] at hne
      have hsg : s ≠ g := fun e => hne (by rw [e])
      obtain ⟨r, m1, m2⟩ := pg_mayUnite w0 w1 w2 (by omega) (by omega) hHw hHV r11 (by omega) r13 (by omega) hcol hg hs (aw 0 7)
      have hgo : fX0_uniteFirst_L23 aw fw n2 x9 n w l (k' + 1) (pu_I a) = (if r = 0 then some o else (fX0_unite (if pu_I s < pu_I g then pu_I s else pu_I g) (if pu_I g < pu_I s then pu_I s else pu_I g) fw n2 x9).bind (fun (o_12 : ST × ST) => some (Sum.inl (1, (o_12.1), (o_12.2))))) := by
        show (if pu_I a < 0 then _ else (if ixb (pu_I a) (n2 2) = true then (if (x9 2 (nn (pu_I a))) = 25 then (if ixb (pu_I a) (n2 3) = true then (if ixb (pu_I a) (n2 4) = true then ((fX2_mayUnite n w l (x9 3 (nn (pu_I a))) (x9 4 (nn (pu_I a))) (aw 0 7)).bind fun (o_9 : Int32) => _) else none) else none) else _) else none)) = _
        rw [if_neg (pu_ge (by omega)), if_pos hn2, pu_nn (by omega), if_pos h25, if_pos hn3, if_pos hn4, eg, es, m1, Option.bind_some]
        rw [hJ]
      rw [hgo]
      rcases m2 with rfl | ⟨rfl, q1, q2, q3⟩
      · rw [if_pos rfl]
        exact ⟨o, rfl, h2⟩
      · rw [if_neg (by decide)]
        have q4 : pg_ad w l H wd g s = false := by unfold pg_ad; rw [if_pos q2]; exact q3
        have q5 : pg_ad w l H wd s g = false := by
          cases e : pg_ad w l H wd s g with
          | false => rfl
          | true => rw [hsym s g hs hg e] at q4; cases q4
        by_cases e : s < g
        · rw [if_pos ((pu_lt (by omega) (by omega)).mpr e), if_neg (fun h => by have := (pu_lt (by omega) (by omega)).mp h; omega)]
          obtain ⟨fw', x9', qs', u1, u2⟩ := hun s g q2 q1 hsg hHV q5
          rw [u1]
          exact ⟨_, rfl, Or.inr ⟨fw', x9', qs', rfl, u2⟩⟩
        · rw [if_neg (fun h => e ((pu_lt (by omega) (by omega)).mp h)), if_pos ((pu_lt (by omega) (by omega)).mpr (by omega))]
          obtain ⟨fw', x9', qs', u1, u2⟩ := hun g s q1 q2 hsg.symm hHV q4
          rw [u1]
          exact ⟨_, rfl, Or.inr ⟨fw', x9', qs', rfl, u2⟩⟩
    · refine ⟨o, ?_, h2⟩
      show (if pu_I a < 0 then _ else (if ixb (pu_I a) (n2 2) = true then (if (x9 2 (nn (pu_I a))) = 25 then _ else (fX0_uniteFirst_J106 (fX0_uniteFirst_L23 aw fw n2 x9 n w l k') n2 x9 (pu_I a))) else none)) = _
      rw [if_neg (pu_ge (by omega)), if_pos hn2, pu_nn (by omega), if_neg h25]
      exact hJ
theorem pa_uf2 (has : pa_as F0 B N V H fw x9 n2 qs) (hgr : pg_gr B H V wd fw x9 qs n w l) (hW : ∀ v, pg_W H wd l 0 v → False) (hHV : H ≤ V) (hwd : wd = (H + 63) / 64) (hwd2 : wd ≤ 20) (hV2 : V ≤ 7110) :
    ∀ (m i k : Nat), i + m = B → m < k → ∃ o, fX0_uniteFirst_L2 aw fw n2 x9 n w l k (pu_I i) = some o ∧ (o = .inr () ∨ ∃ fw' x9' qs', o = .inl (1, fw', x9') ∧ pa_as F0 B N V H fw' x9' n2 qs' ∧ pa_dn B H fw x9 qs fw' x9' qs') := by
  obtain ⟨⟨hB0, hBp, hB⟩, ⟨_, hN, hV⟩, hst, hd, _⟩ := id has.1
  intro m
  induction m with
  | zero =>
    intro i k hi hk
    obtain ⟨k', rfl⟩ : ∃ k', k = k' + 1 := ⟨k - 1, by omega⟩
    obtain rfl : i = B := by omega
    refine ⟨.inr (), ?_, Or.inl rfl⟩
    show (if (fw 0 0) ≤ pu_I i then some (Sum.inr ()) else _) = _
    rw [hB0, if_pos (Int32.le_refl _)]
  | succ m ih =>
    intro i k hi hk
    obtain ⟨k', rfl⟩ : ∃ k', k = k' + 1 := ⟨k - 1, by omega⟩
    have hiB : i < B := by omega
    obtain ⟨o, h1, h2⟩ := pa_uf23 (aw := aw) has hgr hW hHV hwd hwd2 hV2 hiB (qs i) NF (fw 4 i) (by have := pv_len N (qs i) (hd.2.1 i hiB) (hd.1 i hiB); have := pv_NF; omega) (hst.1 i hiB) (fun a ha => ha)
    obtain ⟨o2, h3, h4⟩ := ih (i + 1) k' (by omega) (by omega)
    have hgo : fX0_uniteFirst_L2 aw fw n2 x9 n w l (k' + 1) (pu_I i) = Sum.elim (fun r => some (Sum.inl r)) (fun (_ : Unit) => some o2) o := by
      show (if (fw 0 0) ≤ pu_I i then some (Sum.inr ()) else (if ixb (pu_I i) 60 = true then ((fX0_uniteFirst_L23 aw fw n2 x9 n w l NF (fw 4 (nn (pu_I i)))).bind fun (o23 : (Sum (Int32 × ST × ST) Unit)) => Sum.elim (fun r => some (Sum.inl r)) (fun (t23 : Unit) => ((fX0_uniteFirst_L2 aw fw n2 x9 n w l k') (pu_I i + 1))) o23) else none)) = _
      rw [hB0, if_neg (by rw [pu_le (by omega) (by omega)]; omega), if_pos ((pu_ix (by omega)).mpr (by omega)), pu_nn (by omega), h1, Option.bind_some, pu_su, h3]
    rw [hgo]
    rcases h2 with rfl | ⟨fw', x9', qs', rfl, u1⟩
    · exact ⟨o2, rfl, h4⟩
    · exact ⟨_, rfl, Or.inr ⟨fw', x9', qs', rfl, u1⟩⟩
theorem pa_uniteFirst (has : pa_as F0 B N V H fw x9 n2 qs) (hgr : pg_gr B H V wd fw x9 qs n w l) (hW : ∀ v, pg_W H wd l 0 v → False) (hHV : H ≤ V) (hwd : wd = (H + 63) / 64) (hwd2 : wd ≤ 20) (hV2 : V ≤ 7110) :
    ∃ o, fX0_uniteFirst aw fw n2 x9 n w l = some o ∧ (o = (0, fw, x9) ∨ ∃ fw' x9' qs', o = (1, fw', x9') ∧ pa_as F0 B N V H fw' x9' n2 qs' ∧ pa_dn B H fw x9 qs fw' x9' qs') := by
  obtain ⟨o, h1, h2⟩ := pa_uf2 (aw := aw) has hgr hW hHV hwd hwd2 hV2 B 0 NF (by omega) (by have := has.1.1.2.2; have := pv_NF; omega)
  have h1 : fX0_uniteFirst_L2 aw fw n2 x9 n w l NF 0 = some o := h1
  unfold fX0_uniteFirst
  rw [h1, Option.bind_some]
  rcases h2 with rfl | ⟨fw', x9', qs', rfl, u1⟩
  · exact ⟨_, rfl, Or.inl rfl⟩
  · exact ⟨_, rfl, Or.inr ⟨fw', x9', qs', rfl, u1⟩⟩
/-- the graph is reckoned -/
theorem pa_reckon (has : pa_as F0 B N V H fw x9 n2 qs) (hHV : H ≤ V) (hwd : wd = (H + 63) / 64) (hwd2 : wd ≤ 20) (hV2 : V ≤ 7110) (hVw : V * wd ≤ 135100) (hc : pg_cap n) (w : ST) (l : SL) :
    ∃ w' l' n', fX2_reckon n w l fw (pu_I H) (pu_I V) n2 x9 = some (w', l', n') ∧ pg_gr B H V wd fw x9 qs n' w' l' ∧ (∀ v, pg_W H wd l' 0 v → False) := by
  obtain ⟨hfl, hgs, _, _, W, hok, hWH⟩ := has
  obtain ⟨w', l', n', h1, h2, h3⟩ := pg_reckon hfl hgs hHV hwd hwd2 hV2 hVw hc hok.2.2.2.1 hWH w l
  exact ⟨w', l', n', h1, h2, fun v hv => hok.2.2.2.2.1 v (h3 0 v hfl.1.2.1 hv)⟩
theorem pa_128 (hHV : H ≤ V) (hwd : wd = (H + 63) / 64) (hwd2 : wd ≤ 20) (hV2 : V ≤ 7110) (hVw : V * wd ≤ 135100) :
    ∀ (m i k : Nat) (aw fw x9 w : ST) (l : SL) (n : Nat → Nat) (qs : Nat → List Nat), i + m = 1000000 → m < k → aw 0 9 = pu_I H → aw 0 8 = pu_I V → pa_as F0 B N V H fw x9 n2 qs → pg_gr B H V wd fw x9 qs n w l → (∀ v, pg_W H wd l 0 v → False) →
      ∃ aw' fw' x9' w' l' n' qs', fX0_makeFunction_L128 n2 k (pu_I i) aw fw x9 w l n = some (aw', fw', x9', w', l', n') ∧ (∀ r z, ¬ (r = 0 ∧ z = 11) → aw' r z = aw r z) ∧ pa_as F0 B N V H fw' x9' n2 qs' ∧ pg_gr B H V wd fw' x9' qs' n' w' l' ∧ (∀ v, pg_W H wd l' 0 v → False) ∧ pa_dn B H fw x9 qs fw' x9' qs' := by
  intro m
  induction m with
  | zero =>
    intro i k aw fw x9 w l n qs hi hk h9 h8 has hgr hW
    obtain ⟨k', rfl⟩ : ∃ k', k = k' + 1 := ⟨k - 1, by omega⟩
    obtain rfl : i = 1000000 := by omega
    refine ⟨aw, fw, x9, w, l, n, qs, ?_, fun _ _ _ => rfl, has, hgr, hW, pa_dn_rf⟩
    have hle : 1000000 ≤ pu_I 1000000 := by decide
    generalize pu_I 1000000 = v at hle ⊢
    show (if 1000000 ≤ v then some (aw, fw, x9, w, l, n) else _) = _
    rw [if_pos hle]
  | succ m ih =>
    intro i k aw fw x9 w l n qs hi hk h9 h8 has hgr hW
    obtain ⟨k', rfl⟩ : ∃ k', k = k' + 1 := ⟨k - 1, by omega⟩
    obtain ⟨o, h1, h2⟩ := pa_uniteFirst (aw := aw) has hgr hW hHV hwd hwd2 hV2
    have hlt : ¬ 1000000 ≤ pu_I i := by rw [show (1000000 : Int32) = pu_I 1000000 from rfl, pu_le (by omega) (by omega)]; omega
    rcases h2 with rfl | ⟨fw', x9', qs', rfl, u1, u0⟩
    · refine ⟨aw, fw, x9, w, l, n, qs, ?_, fun _ _ _ => rfl, has, hgr, hW, pa_dn_rf⟩
      show (if 1000000 ≤ pu_I i then some (aw, fw, x9, w, l, n) else ((fX0_uniteFirst aw fw n2 x9 n w l).bind fun (o_77 : Int32 × ST × ST) => (if (o_77.1) = 0 then some (aw, (o_77.2.1), (o_77.2.2), w, l, n) else _))) = _
      rw [if_neg hlt, h1, Option.bind_some, if_pos rfl]
    · obtain ⟨aw2, haw2⟩ : ∃ aw2, aw2 = upw aw 0 11 ((aw 0 11) + 1) := ⟨_, rfl⟩
      have hup : ∀ r z, ¬ (r = 0 ∧ z = 11) → aw2 r z = aw r z := fun r z h => by rw [haw2, pv_upw, if_neg h]
      obtain ⟨w3, l3, n3, r1, r2, r3⟩ := pa_reckon u1 hHV hwd hwd2 hV2 hVw hgr.2.1.2.2.2.2 w l
      have q9 : aw2 0 9 = pu_I H := by rw [hup 0 9 (by decide), h9]
      have q8 : aw2 0 8 = pu_I V := by rw [hup 0 8 (by decide), h8]
      obtain ⟨aw', fw4, x94, w4, l4, n4, qs4, g1, g2, g3, g4, g5, g6⟩ := ih (i + 1) k' aw2 fw' x9' w3 l3 n3 qs' (by omega) (by omega) q9 q8 u1 r2 r3
      refine ⟨aw', fw4, x94, w4, l4, n4, qs4, ?_, fun r z h => by rw [g2 r z h, hup r z h], g3, g4, g5, pa_dn_tr u0 g6⟩
      show (if 1000000 ≤ pu_I i then some (aw, fw, x9, w, l, n) else ((fX0_uniteFirst aw fw n2 x9 n w l).bind fun (o_77 : Int32 × ST × ST) => (if (o_77.1) = 0 then some (aw, (o_77.2.1), (o_77.2.2), w, l, n) else (lt9 (upw aw 0 11 ((aw 0 11) + 1)) fun (w80 : ST) => ((fX2_reckon n w l (o_77.2.1) (w80 0 9) (w80 0 8) n2 (o_77.2.2)).bind fun (o_81 : ST × SL × (Nat → Nat)) => (fX0_makeFunction_G170_110 (fX0_makeFunction_L128 n2 k') (pu_I i) o_77 w80 o_81)))))) = _
      rw [if_neg hlt, h1, Option.bind_some]
      show ((fX2_reckon n w l fw' (upw aw 0 11 ((aw 0 11) + 1) 0 9) (upw aw 0 11 ((aw 0 11) + 1) 0 8) n2 x9').bind fun (o_81 : ST × SL × (Nat → Nat)) => (fX0_makeFunction_G170_110 (fX0_makeFunction_L128 n2 k') (pu_I i) (1, fw', x9') (upw aw 0 11 ((aw 0 11) + 1)) o_81)) = _
      rw [← haw2, q9, q8, r1, Option.bind_some]
      show fX0_makeFunction_L128 n2 k' (pu_I i + 1) aw2 fw' x9' w3 l3 n3 = _
      rw [pu_su, g1]
end UNF
