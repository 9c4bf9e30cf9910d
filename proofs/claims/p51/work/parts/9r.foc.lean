/-! pure side, stores 48: fold: a block's all, and all blocks -/
section FC
variable {B M : Nat} {g : ST} {n : Nat → Nat}
/-- the flow's block, folded -/
def pv_fob (g w w2 : ST) (ch ph : Nat → List Nat) (b : Nat) : pu_Blk :=
  (((ph b).filter (fun a => !pv_kn9 g w a)).map (pv_P w), ((ph b).filter (pv_kn9 g w)).map (pv_nu9 g w) ++ (ch b).map (fun a => if pv_tf9 g w2 a = true then ((0, w2 3 a, g 5 (nn (w2 3 a)), -1) : pu_Stp) else pv_S w2 a), pu_fen (pv_stt g) (pv_num g) (w 8 b, w 9 b, w 10 b, w 11 b))
theorem pv_foldBlock (hB : B ≤ 60) (hM19 : M ≤ n 19) (hM20 : M ≤ n 20) (hM : M < 50000) {b : Nat} (hb : b < B) {w w2 : ST} {n2 : Nat → Nat} {N R : Nat} {ch ph : Nat → List Nat} (hc : w2 0 0 = pu_I N) (hR : pv_sR n2 R) (hNR : N ≤ R) (hN : N < 50000) (hR2 : R < 100000)
    (hst : pv_stc B w w2 ch) (hd : pv_dis B N ch) (hph : pv_phc B w ph) (hdp : pv_dis B M ph) (hix : ∀ a ∈ ph b, ixb (w 19 a) 250 = true) (hop : ∀ a ∈ ch b, pu_isop (w2 2 a) = true → ixb (w2 3 a) 250 = true) (hev : w 8 b = 23 → ixb (w 9 b) 250 = true) (hpl : (ph b).length ≤ 250) :
    ∃ c w' w2' n2' R' N' ch' ph', fX5_foldBlock g n w (pu_I b) n2 w2 = some (pu_I c, w', w2', n2') ∧ w2' 0 0 = pu_I N' ∧ (∀ i, i ≠ 0 → w2' 0 i = w2 0 i) ∧ pv_sR n2' R' ∧ N' ≤ R' ∧ (R' = R ∨ R' ≤ N' + N' / 2 + 1) ∧ N' = N + ((ph b).filter (pv_kn9 g w)).length ∧
      pv_stc B w' w2' ch' ∧ pv_dis B N' ch' ∧ pv_phc B w' ph' ∧ pv_dis B M ph' ∧ (∀ c, c ≠ b → ch' c = ch c ∧ ph' c = ph c) ∧ ph' b = (ph b).filter (fun a => !pv_kn9 g w a) ∧ ((ch' b).map (pv_S w2') = (pv_fob g w w2 ch ph b).2.1) ∧ (w' 8 b, w' 9 b, w' 10 b, w' 11 b) = (pv_fob g w w2 ch ph b).2.2 ∧
      (∀ c, c ≠ b → w' 8 c = w 8 c ∧ w' 9 c = w 9 c ∧ w' 10 c = w 10 c ∧ w' 11 c = w 11 c) ∧ (∀ r, r ≠ 4 → r ≠ 5 → r ≠ 6 → r ≠ 7 → r ≠ 8 → r ≠ 9 → r ≠ 10 → r ≠ 11 → r ≠ 20 → w' r = w r) ∧ (∀ r i, r ≠ 0 → r ≠ 6 → i < N → i ∉ ch b → w2' r i = w2 r i) ∧ (∀ r, r ≠ 0 → r ≠ 2 → r ≠ 3 → r ≠ 4 → r ≠ 5 → r ≠ 6 → w2' r = w2 r) ∧ (∀ r, r ≠ 2 → r ≠ 3 → r ≠ 4 → r ≠ 5 → r ≠ 6 → n2' r = n2 r) ∧
      c = ((ph b).filter (pv_kn9 g w)).length + ((ch b).filter (pv_tf9 g w2)).length + (if w 8 b = 23 ∧ g 4 (nn (w 9 b)) = 1 then 1 else 0) := by
  obtain ⟨w1, a1, a2, a3, a4⟩ := pv_takeSteps (b := b) hB hb hst
  have hph1 : pv_phc B w1 ph := by
    unfold pv_phc
    rw [a3 6 (by decide) (by decide), a3 7 (by decide) (by decide), a3 20 (by decide) (by decide)]
    exact hph
  obtain ⟨w3, b1, b2, b3, b4⟩ := pv_takePhis (b := b) hB hb hph1
  have r6 : w1 6 = w 6 := a3 6 (by decide) (by decide)
  have r20 : w3 20 = w 20 := by rw [b3 20 (by decide) (by decide), a3 20 (by decide) (by decide)]
  have r19 : w3 19 = w 19 := by rw [b3 19 (by decide) (by decide), a3 19 (by decide) (by decide)]
  have hst3 : pv_stc B w3 w2 (pv_up ch b []) := by
    unfold pv_stc
    rw [b3 4 (by decide) (by decide), b3 5 (by decide) (by decide)]
    exact a2
  have hd0 : pv_dis B N (pv_up ch b []) := pv_dis_sub hd fun _ => List.nil_sublist _
  have hdp0 : pv_dis B M (pv_up ph b []) := pv_dis_sub hdp fun _ => List.nil_sublist _
  have hlenM := pv_len M (ph b) (hdp.2.1 b hb) (hdp.1 b hb)
  have hfree : ∀ (f : Nat → List Nat) (a : Nat) , (∀ c, c < B → c ≠ b → a ∉ f c) → ∀ c, c < B → a ∉ pv_up f b [] c := by
    intro f a h c hcB h9
    by_cases e : c = b
    · rw [e, pv_up_s] at h9; cases h9
    · rw [pv_up_n e] at h9; exact h c hcB e h9
  obtain ⟨w4, w5, n3, R', nw, c1, c2, c3, c4, c5, c6, c7, c8, c9, c10, c11, c12, c13, c14, c15, c16, c17, c18⟩ := pv_fo16 (g := g) (b := b) (n := n) (L := ch b) (xL := w 4 b) hB hM19 hM20 hM hb (w0 := w) (fun _ _ _ => trivial) (ph b) [] [] 0 N R w3 w2 n2 NF (w 6 b) (by have := pv_NF; omega)
    (by rw [r20]; exact hph.1 b hb) r19 hix hc hR hNR (by omega) hR2 hst3 hd0 b2 hdp0 (fun a ha => ⟨hdp.1 b hb a ha, hfree ph a fun c hcB e h => e (hdp.2.2 c b a hcB hb h ha)⟩) (hdp.2.1 b hb)
    (hst.1 b hb) (fun a ha => ⟨hd.1 b hb a ha, hfree ch a fun c hcB e h => e (hd.2.2 c b a hcB hb h ha)⟩)
  rw [Nat.zero_add] at c1
  rw [List.nil_append] at c6 c7 c8 c9
  obtain ⟨q2, q3, q4, q5, q6⟩ := id c3
  have hrl : ((ph b).filter (pv_kn9 g w)).length ≤ (ph b).length := List.length_filter_le _ _
  have hsame : ∀ a, a ∈ ch b → ∀ r, r ≠ 0 → r ≠ 6 → w5 r a = w2 r a := fun a ha r r0 r6 => c15 r a r0 r6 (hd.1 b hb a ha)
  obtain ⟨w6, w7, d1, d2, d3, d4, d5, d6, d7, d8⟩ := pv_fo91 (g := g) (b := b) hB hb (o16 := (pu_I ((ph b).filter (pv_kn9 g w)).length, w4, w5, n3)) (N := N + ((ph b).filter (pv_kn9 g w)).length) (by show _ ≤ n3 2; omega) (by show _ ≤ n3 3; omega) (by show _ ≤ n3 4; omega) (by show _ ≤ n3 5; omega) (by show _ ≤ n3 6; omega) (by omega) (ch := ch) (z0 := w2)
    (ch b) nw ((ph b).filter (pv_kn9 g w)).length w4 w5 NF (w 4 b) (by have := pv_len N (ch b) (hd.2.1 b hb) (hd.1 b hb); have := pv_NF; omega) c10
    (fun a ha => ⟨hsame a ha 2 (by decide) (by decide), hsame a ha 3 (by decide) (by decide), hsame a ha 4 (by decide) (by decide), hsame a ha 5 (by decide) (by decide), hop a ha⟩) c6 c7 (fun a ha => ⟨by have := (c11 a ha).1; omega, (c11 a ha).2⟩) (hd.2.1 b hb)
  have e8 : ∀ c, w6 8 c = w 8 c ∧ w6 9 c = w 9 c ∧ w6 10 c = w 10 c ∧ w6 11 c = w 11 c := by
    intro c
    have h : ∀ r, r = 8 ∨ r = 9 ∨ r = 10 ∨ r = 11 → w6 r = w r := by
      rintro r (rfl | rfl | rfl | rfl)
      · rw [d5 8 (by decide) (by decide), c13 8 (by decide) (by decide) (by decide) (by decide) (by decide), b3 8 (by decide) (by decide), a3 8 (by decide) (by decide)]
      · rw [d5 9 (by decide) (by decide), c13 9 (by decide) (by decide) (by decide) (by decide) (by decide), b3 9 (by decide) (by decide), a3 9 (by decide) (by decide)]
      · rw [d5 10 (by decide) (by decide), c13 10 (by decide) (by decide) (by decide) (by decide) (by decide), b3 10 (by decide) (by decide), a3 10 (by decide) (by decide)]
      · rw [d5 11 (by decide) (by decide), c13 11 (by decide) (by decide) (by decide) (by decide) (by decide), b3 11 (by decide) (by decide), a3 11 (by decide) (by decide)]
    exact ⟨by rw [h 8 (Or.inl rfl)], by rw [h 9 (Or.inr (Or.inl rfl))], by rw [h 10 (Or.inr (Or.inr (Or.inl rfl)))], by rw [h 11 (Or.inr (Or.inr (Or.inr rfl)))]⟩
  obtain ⟨w8, f1, f2, f3, f4⟩ := pv_foldEnd (g := g) (b := b) hB hb (w := w6) (by rw [(e8 b).1, (e8 b).2.1]; exact hev)
  rw [(e8 b).1, (e8 b).2.1] at f1 f4
  rw [(e8 b).2.2.1, (e8 b).2.2.2] at f4
  have hnwlt : ∀ a ∈ nw, N ≤ a ∨ True := fun _ _ => Or.inr trivial
  have hnotin : ∀ a ∈ nw, a ∉ ch b := by
    intro a ha h
    exact (c11 a h).2 b hb (by rw [pv_up_s]; exact ha)
  have hw7nw : nw.map (pv_S w7) = nw.map (pv_S w5) := by
    refine List.map_congr_left fun a ha => ?_
    have hn := hnotin a ha
    unfold pv_S
    rw [d7 2 a (by decide) hn, d7 3 a (by decide) hn, d7 4 a (by decide) hn, d7 5 a (by decide) hn]
  refine ⟨_, w8, w7, n3, R', N + ((ph b).filter (pv_kn9 g w)).length, pv_up ch b (nw ++ ch b), pv_up ph b ((ph b).filter (fun a => !pv_kn9 g w a)), ?_, ?_, fun i hi => ?_, c3, c4, c5, rfl, ?_, d3, ?_, c9, fun c hcb => ⟨pv_up_n hcb, pv_up_n hcb⟩, pv_up_s _ _ _, ?_, f4, fun c hcb => ?_, fun r r4 r5 r6 r7 r8 r9 r10 r11 r20 => ?_, fun r i r0 r6 hi hib => ?_, fun r r0 r2 r3 r4 r5 r6 => ?_, c18, rfl⟩
  · unfold fX5_foldBlock fX5_foldBlock_G87_25
    rw [a1, Option.bind_some]
    show ((fX1_takePhis w1 (pu_I b)).bind _) = _
    rw [b1, Option.bind_some, r6]
    have c1 : fX5_foldBlock_L16 g n (pu_I b) NF 0 (w 6 b) w3 w2 n2 = some (pu_I ((ph b).filter (pv_kn9 g w)).length, w4, w5, n3) := c1
    show ((fX5_foldBlock_L16 g n (pu_I b) NF 0 (w 6 b) w3 w2 n2).bind _) = _
    rw [c1, Option.bind_some]
    show ((fX5_foldBlock_L91 g (pu_I b) (pu_I ((ph b).filter (pv_kn9 g w)).length, w4, w5, n3) NF (pu_I ((ph b).filter (pv_kn9 g w)).length) (w 4 b) w4 w5).bind _) = _
    rw [d1, Option.bind_some]
    show ((fX5_foldEnd g w6 (pu_I b)).bind _) = _
    rw [f1, Option.bind_some]
    show some (pu_I _ + pu_I _, w8, w7, n3) = _
    rw [pv_add]
  · rw [d8 0 (by decide) (by decide) (by decide) (by decide)]; exact c2
  · rw [d8 0 (by decide) (by decide) (by decide) (by decide)]; exact c17 i hi
  · unfold pv_stc
    rw [f2 4 (by decide) (by decide) (by decide) (by decide), f2 5 (by decide) (by decide) (by decide) (by decide)]
    exact d2
  · unfold pv_phc
    rw [f2 6 (by decide) (by decide) (by decide) (by decide), f2 7 (by decide) (by decide) (by decide) (by decide), f2 20 (by decide) (by decide) (by decide) (by decide), d5 6 (by decide) (by decide), d5 7 (by decide) (by decide), d5 20 (by decide) (by decide)]
    exact c8
  · rw [pv_up_s, List.map_append, hw7nw, c12, d4]
    rfl
  · have h := f3 c hcb
    have h2 := e8 c
    exact ⟨by rw [h.1, h2.1], by rw [h.2.1, h2.2.1], by rw [h.2.2.1, h2.2.2.1], by rw [h.2.2.2, h2.2.2.2]⟩
  · rw [f2 r r8 r9 r10 r11, d5 r r4 r5, c13 r r4 r5 r6 r7 r20, b3 r r6 r7, a3 r r4 r5]
  · rw [d7 r i r6 hib, c15 r i r0 r6 hi]
  · rw [d8 r r2 r4 r5 r6, c16 r r0 r2 r3 r4 r5 r6]
end FC
