/-! pure side, stores 56: merge, whole -/
theorem pu_D_ext {F : pu_Flow} {L : Nat → Prop} {D D' : Nat → Nat → Prop} (h : ∀ b d, L b → (D b d ↔ D' b d)) (hS : pu_ssa F L D) : pu_ssa F L D' := by
  have hG := hS.2.1
  have hav : ∀ b l v, L b → pu_av F D b l v → pu_av F D' b l v := by
    rintro b l v hb (h1 | h1 | ⟨d, h1, h2, h3⟩)
    · exact Or.inl h1
    · exact Or.inr (Or.inl h1)
    · exact Or.inr (Or.inr ⟨d, h1, (h b d hb).mp h2, h3⟩)
  refine ⟨hS.1, ⟨hG.1, fun b d hb h1 => hG.2.1 b d hb ((h b d hb).mpr h1), fun b hb => (h b b hb).mp (hG.2.2.1 b hb), fun b d e hb h1 h2 => ?_, fun b c d hb h1 h2 hn => ?_⟩, hS.2.2.1, hS.2.2.2.1, hS.2.2.2.2.1, fun b l1 s l2 hb hl => ?_, fun b hb he => hav b _ _ hb (hS.2.2.2.2.2.2.1 b hb he), fun b c p hb hs hp => hav b _ _ hb (hS.2.2.2.2.2.2.2 b c p hb hs hp)⟩
  · have h3 := (h b d hb).mpr h1
    have hd := (hG.2.1 b d hb h3).2
    exact (h b e hb).mp (hG.2.2.2.1 b d e hb h3 ((h d e hd).mpr h2))
  · exact (h b d hb).mp (hG.2.2.2.2 b c d hb h1 ((h c d (hG.1 b c hb h1)).mpr h2) hn)
  · have h9 := hS.2.2.2.2.2.1 b l1 s l2 hb hl
    exact ⟨fun h8 => hav b _ _ hb (h9.1 h8), fun h8 => hav b _ _ hb (h9.2 h8)⟩
theorem pu_rch_ssa {F : pu_Flow} {L : Nat → Prop} {D : Nat → Nat → Prop} (hS : pu_ssa F L D) : pu_ssa F (pu_rch F) D := by
  have hG := hS.2.1
  have key : ∀ b, pu_rch F b → L b ∧ ∀ d, D b d → pu_rch F d := by
    intro b hb
    refine (hb (fun b => pu_rch F b ∧ L b ∧ ∀ d, D b d → pu_rch F d) ⟨pu_rch_0 F, hS.1, fun d hd => ?_⟩ fun b c hb9 hs => ?_).2
    · have := (hG.2.1 0 d hS.1 hd).1
      rw [show d = 0 by omega]
      exact pu_rch_0 F
    · refine ⟨pu_rch_s hb9.1 hs, hG.1 b c hb9.2.1 hs, fun d hd => ?_⟩
      by_cases e : d = c
      · rw [e]; exact pu_rch_s hb9.1 hs
      · exact hb9.2.2 d (hG.2.2.2.2 b c d hb9.2.1 hs hd e)
  have hL : ∀ b, pu_rch F b → L b := fun b hb => (key b hb).1
  exact ⟨pu_rch_0 F, ⟨fun b c hb hs => pu_rch_s hb hs, fun b d hb hd => ⟨(hG.2.1 b d (hL b hb) hd).1, (key b hb).2 d hd⟩, fun b hb => hG.2.2.1 b (hL b hb), fun b d e hb => hG.2.2.2.1 b d e (hL b hb), fun b c d hb => hG.2.2.2.2 b c d (hL b hb)⟩, hS.2.2.1,
    fun b hb => hS.2.2.2.1 b (hL b hb), ⟨fun b hb => hS.2.2.2.2.1.1 b (hL b hb), fun b c v hb hc => hS.2.2.2.2.1.2 b c v (hL b hb) (hL c hc)⟩, fun b l1 s l2 hb => hS.2.2.2.2.2.1 b l1 s l2 (hL b hb), fun b hb => hS.2.2.2.2.2.2.1 b (hL b hb), fun b c p hb => hS.2.2.2.2.2.2.2 b c p (hL b hb)⟩
theorem pv_Fs_id {σ : Int32 → Int32} (h : ∀ u, σ u = u) (w w2 : ST) (ch ph : Nat → List Nat) : pv_Fs σ w w2 ch ph = pv_F w w2 ch ph := by
  have hs : σ = id := funext h
  subst hs
  funext b
  show ((ph b).map (fun a => (w 19 a, fun p => w 21 (a * 60 + p))), (ch b).map (fun a => pu_sbS id (pv_S w2 a)), _) = ((ph b).map (pv_P w), (ch b).map (pv_S w2), _)
  have : (ch b).map (fun a => pu_sbS id (pv_S w2 a)) = (ch b).map (pv_S w2) := by
    refine List.map_congr_left fun a _ => ?_
    unfold pu_sbS
    have e1 : (if pu_ul (pv_S w2 a).1 = true then id (pv_S w2 a).2.2.1 else (pv_S w2 a).2.2.1) = (pv_S w2 a).2.2.1 := by
      by_cases h : pu_ul (pv_S w2 a).1 = true
      · rw [if_pos h]; rfl
      · rw [if_neg h]
    have e2 : (if pu_ur (pv_S w2 a).1 = true then id (pv_S w2 a).2.2.2 else (pv_S w2 a).2.2.2) = (pv_S w2 a).2.2.2 := by
      by_cases h : pu_ur (pv_S w2 a).1 = true
      · rw [if_pos h]; rfl
      · rw [if_neg h]
    rw [e1, e2]
  rw [this]
  rfl
section ML
variable {B N M Lm fs na : Nat} {D : Nat → Nat → Prop} {l0 : SL} {w0 w20 s : ST} {n n2 : Nat → Nat} {ch0 ph0 : Nat → List Nat} {wb dm : Nat → Nat} {F0 : pu_Flow}
theorem pv_mb27 (hfl : pv_fl n w0 l0 n2 w20 B N M Lm fs na D ch0 ph0 wb dm) :
    ∀ (m i k j : Nat) (y : Int32) (g : ST) (l : SL) (w w2 : ST) (ch ph : Nat → List Nat) (la : Nat → Nat), i + m = 61 → m < k → j ≤ i → pv_Mv B N M D w0 w20 ch0 ph0 F0 g w w2 (l 0 7) ch ph la →
      ∃ j' g' l' w' w2' ch' ph' la', fX5_mergeBlocks_L27 n n2 k (pu_I j) y (pu_I i) g l w w2 = some (pu_I j', g', l', w', w2') ∧ j' ≤ 61 ∧ pv_Mv B N M D w0 w20 ch0 ph0 F0 g' w' w2' (l' 0 7) ch' ph' la' ∧ ((j' = j ∧ w' = w ∧ w2' = w2) ∨ 0 < j') := by
  intro m
  induction m with
  | zero =>
    intro i k j y g l w w2 ch ph la hi hk hj hM
    obtain ⟨k', rfl⟩ : ∃ k', k = k' + 1 := ⟨k - 1, by omega⟩
    refine ⟨j, g, l, w, w2, ch, ph, la, ?_, by omega, hM, Or.inl ⟨rfl, rfl, rfl⟩⟩
    show (if y = 0 then _ else (if 60 < pu_I i then _ else _)) = _
    by_cases hy : y = 0
    · rw [if_pos hy]
    · rw [if_neg hy, if_pos (show (60 : Int32) < pu_I i from (pu_lt (a := 60) (b := i) (by decide) (by omega)).mpr (by omega))]
  | succ m ih =>
    intro i k j y g l w w2 ch ph la hi hk hj hM
    obtain ⟨k', rfl⟩ : ∃ k', k = k' + 1 := ⟨k - 1, by omega⟩
    by_cases hy : y = 0
    · refine ⟨j, g, l, w, w2, ch, ph, la, ?_, by omega, hM, Or.inl ⟨rfl, rfl, rfl⟩⟩
      show (if y = 0 then _ else _) = _
      rw [if_pos hy]
    have hok := hfl.1.1
    have hB := hok.1.2.2
    obtain ⟨hend, hsv, _⟩ := hM.2.2.2.2.2.2.2.2.2.1
    have hrow := hM.2.2.2.2.2.2.2.2.2.2.1
    have hek : pv_ek B w := fun c hc => ⟨(hend c hc).2.2.1, (hend c hc).2.2.2⟩
    have r0 : w 0 = w0 0 := hrow 0 (by decide) (by decide) (by decide) (by decide) (by decide) (by decide) (by decide) (by decide) (by decide)
    have r14 : w 14 = w0 14 := hrow 14 (by decide) (by decide) (by decide) (by decide) (by decide) (by decide) (by decide) (by decide) (by decide)
    obtain ⟨o, o1, o2⟩ := pv_mergeable (l := l) hB (by rw [r0]; exact hok.1.1) hfl.1.2.2.2.1 r14 hek hsv
    have h60 : ¬ (60 : Int32) < pu_I i := fun h => by
      have := (pu_lt (a := 60) (b := i) (by decide) (by omega)).mp h
      omega
    have hform : fX5_mergeBlocks_L27 n n2 (k' + 1) (pu_I j) y (pu_I i) g l w w2 = (if o < 0 then (fX5_mergeBlocks_L27 n n2 k' (pu_I j) 0 (pu_I (i + 1)) g l w w2) else (if ixb o 60 = true then ((fX5_mergeInto g l n w o (w 10 (nn o)) n2 w2).bind fun (o_9 : ST × SL × ST × ST) => fX5_mergeBlocks_L27 n n2 k' (pu_I (j + 1)) 1 (pu_I (i + 1)) (o_9.1) (o_9.2.1) (o_9.2.2.1) (o_9.2.2.2)) else none)) := by
      show (if y = 0 then _ else (if 60 < pu_I i then _ else ((fX5_mergeable l w).bind fun (o_5 : Int32) => (if o_5 < 0 then (fX5_mergeBlocks_J55 (fX5_mergeBlocks_L27 n n2 k') n n2 (pu_I j) (pu_I i) g l w w2 o_5 0) else (fX5_mergeBlocks_J55 (fX5_mergeBlocks_L27 n n2 k') n n2 (pu_I j) (pu_I i) g l w w2 o_5 1))))) = _
      rw [if_neg hy, if_neg h60, o1, Option.bind_some]
      by_cases h0 : o < 0
      · rw [if_pos h0, if_pos h0]
        show fX5_mergeBlocks_L27 n n2 k' (pu_I j) 0 (pu_I i + 1) g l w w2 = _
        rw [pu_su]
      · rw [if_neg h0, if_neg h0]
        show (if ixb o 60 = true then ((fX5_mergeInto g l n w o (w 10 (nn o)) n2 w2).bind fun (o_9 : ST × SL × ST × ST) => fX5_mergeBlocks_L27 n n2 k' (pu_I j + 1) 1 (pu_I i + 1) (o_9.1) (o_9.2.1) (o_9.2.2.1) (o_9.2.2.2)) else none) = _
        rw [pu_su, pu_su]
    rw [hform]
    rcases o2 with h0 | ⟨b, c, b1, c1, rfl, b2, b3, b4, b5, b6⟩
    · rw [if_pos h0]
      exact ih (i + 1) k' j 0 g l w w2 ch ph la (by omega) (by omega) (by omega) hM
    · rw [if_neg (pu_ge (by omega)), if_pos ((pu_ix (by omega)).mpr (by omega)), pu_nn (by omega)]
      obtain ⟨g', l', w', w2', ch', ph', la', q1, q2⟩ := pv_mb_step (l := l) hfl hM b1 c1 b2 b3 b4 b5 b6
      rw [q1, Option.bind_some]
      obtain ⟨j', g3, l3, w3, w23, ch3, ph3, la3, e1, e2, e3, e4⟩ := ih (i + 1) k' (j + 1) 1 g' l' w' w2' ch' ph' la' (by omega) (by omega) (by omega) q2
      refine ⟨j', g3, l3, w3, w23, ch3, ph3, la3, e1, e2, e3, Or.inr ?_⟩
      rcases e4 with h | h
      · omega
      · exact h
/-- blocks that follow one another alone become one: the flow keeps its shape and its runs -/
theorem pv_merge {g : ST} {gl l : SL} {w w2 : ST} {ch ph : Nat → List Nat} (hfl : pv_fl n w l n2 w2 B N M Lm fs na D ch ph wb dm) :
    ∃ c g' gl' w' l' w2' s' B' D' ch' ph' wb' dm', fX5_mergeBlocks g gl n w l n2 w2 s = some (pu_I c, g', gl', w', l', w2', s') ∧ c ≤ 61 ∧ pv_fl n w' l' n2 w2' B' N M Lm fs na D' ch' ph' wb' dm' ∧ pv_sl ph' B' ≤ pv_sl ph B ∧
      (∀ call ar k e m q r, pu_run (pv_F w w2 ch ph) call ar k 0 0 (e, m, q) = some r → pu_run (pv_F w' w2' ch' ph') call ar k 0 0 (e, m, q) = some r) := by
  obtain ⟨⟨hok, hrg, hgk, hw, htk⟩, hend, hsu, hS, hd, hdb, hlp, hdmw, hdm, ⟨hLw, hL, hLp, hLs⟩, hcp, hcn, hno, hnf⟩ := id hfl
  obtain ⟨⟨hw0, hB0, hB⟩, hNs, ⟨hM19, hM20, hM21, hMM⟩, hstc, hdis, hphc, hdp, hix, hix2⟩ := id hok
  have hG := hS.2.1
  obtain ⟨f1, a1, a2⟩ := pv_fill (n := 250) (f := g 6) (v := -1) (by decide)
  have hg6 : ∀ v, v < 250 → srw g 6 f1 6 v < 0 := fun v hv => by
    rw [pv_srw_s, a2 v hv]
    decide
  have hsg0 : ∀ u, pv_sgx (srw g 6 f1) u = u := by
    intro u
    by_cases hu : ixb u 250 = true
    · rw [pv_sgx_v hu, pv_sg_0 (hg6 _ (pv_ixn hu).2)]
    · exact pv_sgx_n hu
  have hbit : ∀ c, pv_bt (upl gl 0 7 (((1 : Int64) <<< ((pu_I B).toInt64 &&& 63)) - (1 : Int64)) 0 7) c = true ↔ c < B := by
    intro c
    rw [pv_upl, if_pos ⟨rfl, rfl⟩, pv_bt_all hB]
    exact decide_eq_true_iff
  have hek : pv_ek B w := fun c hc => ⟨(hend c hc).2.2.1, (hend c hc).2.2.2⟩
  have hsv : pv_sv B w := by
    intro b hb
    have h9 := hend b hb
    have key : ∀ x : Int32, ¬ x < 0 → pu_sc (pv_F w w2 ch ph) b (nn x) → x < 0 ∨ ∃ c, c < B ∧ x = pu_I c := fun x hx hs => Or.inr ⟨nn x, hG.1 b _ hb hs, pu_of hx⟩
    have hcase := h9.2.2.1
    constructor
    · by_cases h0 : w 10 b < 0
      · exact Or.inl h0
      · refine key _ h0 ⟨?_, Or.inl rfl⟩
        intro e
        exact h0 (h9.2.2.2.2.2 e).1
    · by_cases h0 : w 11 b < 0
      · exact Or.inl h0
      · have h23 : w 8 b = 23 := by
          rcases hcase with e | e | e
          · exact absurd (h9.2.2.2.1 e).2 h0
          · exact e
          · exact absurd (h9.2.2.2.2.2 e).2 h0
        refine key _ h0 ⟨?_, Or.inr ⟨h23, rfl⟩⟩
        show w 8 b ≠ 24
        rw [h23]
        decide
  have hM0 : pv_Mv B N M D w w2 ch ph (pv_F w w2 ch ph) (srw g 6 f1) w w2 (upl gl 0 7 (((1 : Int64) <<< ((pu_I B).toInt64 &&& 63)) - (1 : Int64)) 0 7) ch ph id := by
    refine ⟨⟨pv_sk_0 hg6, ?_, fun call ar k e m q r h => by rw [pv_Fs_id hsg0]; exact h⟩, fun p hp _ => ⟨hp, hG.2.2.1 p hp, fun _ => rfl, rfl, rfl, rfl, rfl⟩, fun p p' _ _ _ _ e => e, fun p c _ _ _ _ _ a _ => ⟨rfl, rfl⟩, ⟨hstc, hdis, hphc, hdp⟩,
      fun c hc => ⟨fun _ => rfl, fun h => absurd ((hbit c).mpr hc) h⟩, fun c hc a ha => ⟨c, hc, ha⟩, fun c hc a ha => hg6 _ (pv_ixn (hix c hc a ha)).2, fun c p hc hp he a ha => ?_, ⟨hend, hsv, fun p hp h => hno p hp ((pv_eg_sc hek hp (by decide)).mpr h), hnf⟩, fun r _ _ _ _ _ _ _ _ _ => rfl, fun r _ => rfl⟩
    · rw [pv_Fs_id hsg0]
      have e1 : (fun c => c < B) = fun c => c < B ∧ pv_bt (upl gl 0 7 (((1 : Int64) <<< ((pu_I B).toInt64 &&& 63)) - (1 : Int64)) 0 7) c = true := funext fun c => propext ⟨fun h => ⟨h, (hbit c).mpr h⟩, fun h => h.1⟩
      rw [← e1]
      exact pu_D_ext (fun b d hb => ⟨fun h => ⟨h, (hbit d).mpr (hG.2.1 b d hb h).2⟩, fun h => h.1⟩) hS
    · obtain ⟨j, j1, j2, j3⟩ := hw.2.2.2.2.1 c p hc hp he
      have h9 := htk c hc a ha j j1 j2
      rw [j3, pu_nn (by omega)] at h9
      exact h9
  obtain ⟨j', g', l', w', w2', ch', ph', la', b1, b2, b3, b4⟩ := pv_mb27 hfl 61 0 NF 0 1 _ _ w w2 ch ph id (by decide) (by have := pv_NF; omega) (Nat.le_refl _) hM0
  have hform : fX5_mergeBlocks g gl n w l n2 w2 s = (if pu_I j' ≤ 0 then (fX5_mergeBlocks_J100 (pu_I j', g', l', w', w2') w' l w2' s) else ((fX8_renumber s n w' l).bind fun (o_12 : ST × ST × SL) => ((fX5_useStandIns g' n (o_12.2.1) n2 w2').bind fun (o_13 : ST × ST) => (fX5_mergeBlocks_J100 (pu_I j', g', l', w', w2') (o_13.1) (o_12.2.2) (o_13.2) (o_12.1))))) := by
    unfold fX5_mergeBlocks
    rw [a1, Option.bind_some]
    simp only [lt9]
    rw [hw0]
    have b1 : fX5_mergeBlocks_L27 n n2 NF 0 1 0 (srw g 6 f1) (upl gl 0 7 (((1 : Int64) <<< ((pu_I B).toInt64 &&& 63)) - (1 : Int64))) w w2 = some (pu_I j', g', l', w', w2') := b1
    rw [b1, Option.bind_some]
  by_cases h0 : j' = 0
  · have hsame : w' = w ∧ w2' = w2 := by
      rcases b4 with h | h
      · exact h.2
      · omega
    obtain ⟨rfl, rfl⟩ := hsame
    refine ⟨j', g', l', w', l, w2', s, B, D, ch, ph, wb, dm, ?_, b2, hfl, Nat.le_refl _, fun _ _ _ _ _ _ _ h => h⟩
    rw [hform, if_pos (by rw [h0]; decide)]
    rfl
  · obtain ⟨⟨hsk, hS', hrun⟩, m4, m5, m6, ⟨n1, n3, n4, n5⟩, m8, m9, m10, m11, ⟨hend', hsv', hn0', m14⟩, hrow, hrow2⟩ := b3
    have hek' : pv_ek B w' := fun c hc => ⟨(hend' c hc).2.2.1, (hend' c hc).2.2.2⟩
    have r0 : w' 0 = w 0 := hrow 0 (by decide) (by decide) (by decide) (by decide) (by decide) (by decide) (by decide) (by decide) (by decide)
    have r19 : w' 19 = w 19 := hrow 19 (by decide) (by decide) (by decide) (by decide) (by decide) (by decide) (by decide) (by decide) (by decide)
    have s0 : w2' 0 = w2 0 := hrow2 0 (by decide)
    have s2 : w2' 2 = w2 2 := hrow2 2 (by decide)
    have s3 : w2' 3 = w2 3 := hrow2 3 (by decide)
    have s4 : w2' 4 = w2 4 := hrow2 4 (by decide)
    have s5 : w2' 5 = w2 5 := hrow2 5 (by decide)
    have hph : ∀ c, c < B → ∀ a ∈ ph' c, a ∈ ph c := by
      intro c hc a ha
      by_cases h : pv_bt (l' 0 7) c = true
      · rw [← (m8 c hc).1 h]; exact ha
      · rw [(m8 c hc).2 h] at ha; cases ha
    obtain ⟨s', w3, l3, B', D', ch3, ph3, wb3, dm3, c1, c2, c3, c4, c5, c6⟩ := pv_rn_gen (s := s) (l := l) (fs := fs) (σ := pv_sgx g') (B := B) (N := N) (M := M) (Lm := Lm) (w := w') (w2 := w2') (n := n) (n2 := n2) (ch := ch') (ph := ph')
      ⟨⟨by rw [r0]; exact hw0, hB0, hB⟩, hNs, ⟨hM19, hM20, hM21, hMM⟩, n1, n3, n4, n5, fun c hc a ha => by rw [r19]; exact hix c hc a (hph c hc a ha), fun c hc a ha => by
        obtain ⟨c', c1, c2⟩ := m9 c hc a ha
        rw [s3]
        exact hix2 c' c1 a c2⟩
      (fun c hc a ha => by
        obtain ⟨c', c1, c2⟩ := m9 c hc a ha
        rw [s2, s4, s5]
        exact hrg c' c1 a c2)
      (fun c hc a ha => by
        obtain ⟨c', c1, c2⟩ := m9 c hc a ha
        rw [s2, s3]
        exact hgk c' c1 a c2) (fun c p hc hp he a ha => m11 c p hc hp he a ha) hend' hsv' (pu_rch_ssa hS')
      ⟨by rw [r0]; exact hLw, hL, fun c hc a ha => by rw [r19]; exact hLp c hc a (hph c hc a ha), fun c hc a ha => by
        obtain ⟨c', c1, c2⟩ := m9 c hc a ha
        rw [s3]
        exact hLs c' c1 a c2⟩
      (fun c hc a ha => by
        obtain ⟨c', c1, c2⟩ := m9 c hc a ha
        rw [s2, s3, s4]
        exact hcp c' c1 a c2) ⟨by rw [s0]; exact hcn.1, hcn.2⟩ (fun p hp h => hn0' p hp ((pv_eg_sc hek' hp (by decide)).mp h)) m14
    obtain ⟨w4, w24, d1, d2, d3⟩ := pv_us_fl hsk c2
    refine ⟨j', g', l', w4, l3, w24, s', B', D', ch3, ph3, wb3, dm3, ?_, b2, d2, Nat.le_trans c4 (pv_sl_sub n5 fun c hc a ha => ⟨c, hc, hph c hc a ha⟩), fun call ar k e m q r h => d3 call ar k e m q r (c6 call ar k e m q r (hrun call ar k e m q r h))⟩
    rw [hform, if_neg (by rw [show (0 : Int32) = pu_I 0 from rfl, pu_le (by omega) (by decide)]; omega), c1, Option.bind_some]
    show (fX5_useStandIns g' n w3 n2 w2').bind _ = _
    rw [d1]
    rfl
end ML
