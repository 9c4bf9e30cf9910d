/-! pure side, the machine 3: a micro step of a text -/
section TY
variable {P w : ST} {n17 : Nat → Nat} {f c base i a0 tk : Nat} {st : List Int32} {cl : Nat → Int32} {m : pu_M} {ar : List Int32} {t R : Nat}
theorem pm_bs {α : Type} (x : Option α) : (x.bind fun o => some o) = x := by cases x <;> rfl
theorem pm_text_mv (h : pm_TX w f c base i st cl m ar t R) (hc : c < 8) (hi : i < 3200) (htk : P 11 i = pu_I tk) (ht : t + tk < 2147483648) :
    fX3_moveInText n17 w P = if t + tk ≤ 5000 then (if pu_isop (P 9 i) = true then ((fX3_pop (upw (upw w 12 c (pu_I (i + 1))) 0 2 (pu_I (t + tk)))).bind fun a => (fX3_pop a.2).bind fun b => (fX3_operate b.2 (P 9 i) b.1 a.1).bind fun o => fX3_push o.2 o.1)
      else if 30 ≤ P 9 i ∨ P 9 i = 22 then fX3_moveVariable (upw (upw w 12 c (pu_I (i + 1))) 0 2 (pu_I (t + tk))) (pu_I c) (P 9 i) (P 10 i) P else fX3_moveWord n17 (upw (upw w 12 c (pu_I (i + 1))) 0 2 (pu_I (t + tk))) (pu_I c) (P 9 i) (P 10 i) P)
      else some (upw (upw (upw (upw w 12 c (pu_I (i + 1))) 0 2 5000) 0 0 2) 0 8 0) := by
  obtain ⟨⟨h1, h2, h3, h4, h5, h6, h7, h8⟩, hs, hcl, hm, har⟩ := h
  have hs1 : pu_I (c + 1) - 1 = pu_I c := pv_sub (b := 1) (by omega)
  have hcx : ixb (pu_I c) 8 = true := (pu_ix (by omega)).mpr hc
  have hcn : nn (pu_I c) = c := pu_nn (by omega)
  have hix : ixb (pu_I i) 3200 = true := (pu_ix (by omega)).mpr hi
  have hin : nn (pu_I i) = i := pu_nn (by omega)
  unfold fX3_moveInText fX3_moveInText_J97 fX3_moveInText_J130
  rw [h2, hs1, if_pos hcx, if_pos hcx, hcn, h3, pu_su]
  simp only [lt9]
  rw [if_pos hix, hin, htk, pm_tick (w := upw w 12 c (pu_I (i + 1))) (by rw [pv_upw_n (by decide)]; exact h6) ht]
  by_cases hle : t + tk ≤ 5000
  · rw [if_pos hle, if_pos hle, Option.bind_some, if_neg (show ¬ (1 : Int32) = 0 by decide), if_pos hix, pv_isop, Option.bind_some]
    cases ho : pu_isop (P 9 i) with
    | true =>
      rw [if_neg (show ¬ pv_b true = 0 by decide), if_pos rfl]
      simp only [pm_bs]
    | false =>
      rw [if_pos (show pv_b false = 0 by decide), if_neg (show ¬ (false = true) by decide), if_pos hix, if_pos hix]
      simp only [pm_bs]
      by_cases h30 : 30 ≤ P 9 i
      · rw [if_pos h30, if_pos (Or.inl h30)]
      · rw [if_neg h30]
        by_cases h22 : P 9 i = 22
        · rw [if_pos h22, if_pos (Or.inr h22)]
        · rw [if_neg h22, if_neg fun h => h.elim h30 h22]
  · rw [if_neg hle, if_neg hle, Option.bind_some, if_pos rfl]
/-- what a step of the text does to its length of the row -/
def pm_N (P w' : ST) (call : pu_Call) (f c base i a0 : Nat) (st : List Int32) (cl : Nat → Int32) (m : pu_M) (ar : List Int32) (t' R : Nat) : Prop :=
  (px_step P call ar i st cl m = some (.inl (1, 0, m)) ∧ w' 0 8 = 0 ∧ w' 0 0 = 1 ∧ w' 0 1 = 0 ∧ ∀ z, z < 16 → w' 4 z = m z) ∨
  (∃ i' st' cl' m', px_step P call ar i st cl m = some (.inr (i', st', cl', m')) ∧ pm_TX w' f c base i' st' cl' m' ar t' R ∧ st'.length = (pt_T P a0 (i + 1)).length ∧ (i' = i + 1 ∨ ((P 9 i = 22 ∨ P 9 i = 33 ∨ P 9 i = 34) ∧ i' = px_L P i)))
theorem pm_tx1 (h : pm_TX w f c base i st cl m ar t R) (hc : c < 8) (hia : a0 ≤ i) (hi : i < 3200) (hen : pt_en P i (pt_T P a0 i)) (hlen : st.length = (pt_T P a0 i).length) (hTL : st.length ≤ 60) (hb : base ≤ 420) (htk : P 11 i = pu_I tk) (ht : t + tk < 2147483648) (hle : t + tk ≤ 5000)
    (hk : P 9 i ≤ 21 → (pu_gk (P 9 i) = true ∨ P 9 i = 18 ∨ P 9 i = 19)) (hk2 : P 9 i ≤ 21 ∨ P 9 i = 22 ∨ P 9 i = 24 ∨ 30 ≤ P 9 i) (hvar : (P 9 i = 30 ∨ P 9 i = 31 ∨ P 9 i = 32 ∨ P 9 i = 21) → ∃ u, u < 320 ∧ P 10 i = pu_I u) (hpar : P 9 i = 21 → nn (P 10 i) < ar.length ∧ ar.length ≤ 4) (hla : (P 9 i = 22 ∨ P 9 i = 33 ∨ P 9 i = 34) → ixb (P 10 i) 640 = true ∧ ∃ s, P 13 (nn (P 10 i)) = pu_I s ∧ s < 3200) (h20 : P 9 i ≠ 20) (h24 : P 9 i ≠ 24) (call : pu_Call) :
    ∃ w', fX3_moveInText n17 w P = some w' ∧ pm_fr c base R w w' ∧ pm_N P w' call f c base i a0 st cl m ar (t + tk) R := by
  obtain ⟨g1, q1⟩ := pm_tat h (i + 1)
  obtain ⟨g2, q2⟩ := pm_ttick g1 (t + tk)
  have q3 := pm_fr_tr q1 q2
  rw [pm_text_mv h hc hi htk ht, if_pos hle]
  obtain ⟨w4, hw4⟩ : ∃ w4, w4 = upw (upw w 12 c (pu_I (i + 1))) 0 2 (pu_I (t + tk)) := ⟨_, rfl⟩
  rw [← hw4] at g2 q3 ⊢
  have hTs := pt_T_s (P := P) (a := a0) (i := i) hia
  have hlx : ∀ l : List Nat, l.length = st.length → (pt_nx P i (pt_T P a0 i)).length = (pt_nx P i l).length := fun l hl => by
    unfold pt_nx
    by_cases hg : pt_gv (P 9 i) = true
    · rw [if_pos hg, if_pos hg, List.length_cons, List.length_cons, List.length_drop, List.length_drop, hl, hlen]
    · rw [if_neg hg, if_neg hg, List.length_drop, List.length_drop, hl, hlen]
  have hsl : (pt_T P a0 (i + 1)).length = if pt_gv (P 9 i) = true then st.length - pt_pop P i + 1 else st.length - pt_pop P i := by
    rw [hTs]
    unfold pt_nx
    by_cases hg : pt_gv (P 9 i) = true
    · rw [if_pos hg, if_pos hg, List.length_cons, List.length_drop, hlen]
    · rw [if_neg hg, if_neg hg, List.length_drop, hlen]
  have hpop : pt_pop P i ≤ st.length := by rw [hlen]; exact hen.1
  have hcx : ixb (pu_I c) 8 = true := (pu_ix (by omega)).mpr hc
  have hcn : nn (pu_I c) = c := pu_nn (by omega)
  have hvx : ∀ u, u < 320 → ixb (pu_I c * 320 + pu_I u) 2560 = true ∧ nn (pu_I c * 320 + pu_I u) = c * 320 + u := fun u hu => by
    rw [show (320 : Int32) = pu_I 320 from rfl, pv_mul, pv_add]
    exact ⟨(pu_ix (by omega)).mpr (by omega), pu_nn (by omega)⟩
  unfold pm_N
  unfold px_step
  by_cases ho : pu_isop (P 9 i) = true
  · rw [if_pos ho, if_pos ho]
    rw [px_popo ho] at hpop
    rw [px_popo ho, if_pos (by unfold pt_gv; rw [ho]; rfl)] at hsl
    match st, h, g2, hlen, hTL, hlx, hsl, hpop with
    | y :: x :: s, h, g2, hlen, hTL, hlx, hsl, hpop =>
      have hTL : s.length + 2 ≤ 60 := hTL
      have hsl : (pt_T P a0 (i + 1)).length = s.length + 2 - 2 + 1 := hsl
      obtain ⟨w5, e1, g3, q4⟩ := pm_tpop g2 (by show base + (s.length + 1) < 512; omega)
      obtain ⟨w6, e2, g4, q5⟩ := pm_tpop g3 (by omega)
      rw [e1, Option.bind_some]
      show ∃ w', ((fX3_pop w5).bind _) = some w' ∧ _
      rw [e2, Option.bind_some]
      have hq := pm_fr_tr (pm_fr_tr q3 q4) q5
      have hop : fX3_operate w6 (P 9 i) x y = if pu_fail (P 9 i) y = true then some (0, upw (upw w6 0 0 1) 0 8 0) else some (pu_cmp (P 9 i) x y, w6) := by
        unfold fX3_operate
        rw [pv_failing, Option.bind_some]
        cases hf : pu_fail (P 9 i) y with
        | true => rw [if_neg (show ¬ pv_b true = 0 by decide), pm_stop, if_pos rfl]; rfl
        | false => rw [if_pos (show pv_b false = 0 by decide), pv_compute, if_neg (show ¬ (false = true) by decide)]; rfl
      show ∃ w', ((fX3_operate w6 (P 9 i) x y).bind _) = some w' ∧ _
      rw [hop]
      by_cases hf : pu_fail (P 9 i) y = true
      · rw [if_pos hf, Option.bind_some]
        have h019 : upw (upw w6 0 0 1) 0 8 0 0 19 = pu_I (base + s.length) := by
          rw [pv_upw, if_neg fun h => absurd h.2 (by decide), pv_upw, if_neg fun h => absurd h.2 (by decide)]
          exact g4.1.2.2.2.2.1
        refine ⟨_, pm_push h019 (by omega) 0, ?_, Or.inl ⟨if_pos hf, ?_, ?_, ?_, fun z hz => ?_⟩⟩
        · refine pm_fr_tr hq (pm_fr_tr (pm_fr_stop c base R w6 1) ?_)
          have er : ∀ r, r ≠ 0 → r ≠ 19 → upw (upw (upw (upw w6 0 0 1) 0 8 0) 19 (base + s.length) 0) 0 19 (pu_I (base + s.length + 1)) r = upw (upw w6 0 0 1) 0 8 0 r := fun r r0 r19 => by rw [pv_upw_n r0, pv_upw_n r19]
          refine ⟨fun r hr j hj => by rw [er r (by rcases hr with h | h | h | h <;> rw [h] <;> decide) (by rcases hr with h | h | h | h <;> rw [h] <;> decide)], fun z hz => by rw [er 15 (by decide) (by decide)], fun z hz => by rw [er 16 (by decide) (by decide)], fun z hz => by rw [er 17 (by decide) (by decide)], fun z hz => ?_, ?_, er 8 (by decide) (by decide)⟩
          · rw [pv_upw_n (by decide), pv_upw, if_neg fun h => by omega]
          · rw [pv_upw, if_neg fun h => absurd h.2 (by decide), pv_upw_n (by decide)]
        · rw [pv_upw, if_neg fun h => absurd h.2 (by decide), pv_upw_n (by decide), pv_upw, if_pos ⟨rfl, rfl⟩]
        · rw [pv_upw, if_neg fun h => absurd h.2 (by decide), pv_upw_n (by decide), pv_upw, if_neg fun h => absurd h.2 (by decide), pv_upw, if_pos ⟨rfl, rfl⟩]
        · rw [pv_upw, if_neg fun h => absurd h.2 (by decide), pv_upw_n (by decide), pv_upw, if_neg fun h => absurd h.2 (by decide), pv_upw, if_neg fun h => absurd h.2 (by decide)]
          exact g4.1.2.2.2.2.2.2.2
        · rw [pv_upw_n (by decide), pv_upw_n (by decide), pv_upw_n (by decide), pv_upw_n (by decide)]
          exact g4.2.2.2.1 z hz
      · rw [if_neg hf, Option.bind_some]
        obtain ⟨w7, e3, g5, q6⟩ := pm_tpush g4 (by omega) (pu_cmp (P 9 i) x y)
        exact ⟨w7, e3, pm_fr_tr hq q6, Or.inr ⟨i + 1, _, cl, m, if_neg hf, g5, by rw [hsl]; show s.length + 1 = _; omega, Or.inl rfl⟩⟩
    | [], h, g2, hlen, hTL, hlx, hsl, hpop => exact absurd hpop (by show ¬ 2 ≤ 0; omega)
    | [x], h, g2, hlen, hTL, hlx, hsl, hpop => exact absurd hpop (by show ¬ 2 ≤ 1; omega)
  rw [if_neg ho, if_neg ho]
  by_cases h0 : P 9 i = 0
  · rw [if_pos h0, if_neg (show ¬ (30 ≤ P 9 i ∨ P 9 i = 22) by rw [h0]; decide)]
    rw [px_pop0 h0, if_pos (by rw [h0]; decide)] at hsl
    obtain ⟨w5, e1, g3, q4⟩ := pm_tpush g2 (by omega) (P 10 i)
    refine ⟨w5, ?_, pm_fr_tr q3 q4, Or.inr ⟨i + 1, _, cl, m, rfl, g3, by rw [hsl]; rfl, Or.inl rfl⟩⟩
    unfold fX3_moveWord fX3_moveWord_J156
    rw [if_pos h0, e1]
    rfl
  rw [if_neg h0]
  by_cases h17 : P 9 i = 17
  · rw [if_pos h17, if_neg (show ¬ (30 ≤ P 9 i ∨ P 9 i = 22) by rw [h17]; decide)]
    rw [px_pop17 h17] at hpop
    rw [px_pop17 h17, if_pos (by rw [h17]; decide)] at hsl
    match st, h, g2, hlen, hTL, hlx, hsl, hpop with
    | x :: s, h, g2, hlen, hTL, hlx, hsl, hpop =>
      have hTL : s.length + 1 ≤ 60 := hTL
      have hsl : (pt_T P a0 (i + 1)).length = s.length + 1 - 1 + 1 := hsl
      obtain ⟨w5, e1, g3, q4⟩ := pm_tpop g2 (by omega)
      have hx15 := px_and15 x
      have hrd : fX3_readWord w5 x = some (m (nn (x &&& 15))) := by
        unfold fX3_readWord
        rw [if_pos hx15, g3.2.2.2.1 _ (pv_ixn hx15).2]
      obtain ⟨w6, e2, g4, q5⟩ := pm_tpush g3 (by omega) (m (nn (x &&& 15)))
      refine ⟨w6, ?_, pm_fr_tr (pm_fr_tr q3 q4) q5, Or.inr ⟨i + 1, _, cl, m, rfl, g4, by rw [hsl]; show s.length + 1 = _; omega, Or.inl rfl⟩⟩
      unfold fX3_moveWord fX3_moveWord_J156
      rw [if_neg h0, if_pos h17, e1, Option.bind_some]
      show ((fX3_readWord w5 x).bind _) = _
      rw [hrd, Option.bind_some]
      show ((fX3_push w5 (m (nn (x &&& 15)))).bind _) = _
      rw [e2]
      rfl
    | [], h, g2, hlen, hTL, hlx, hsl, hpop => exact absurd hpop (by show ¬ 1 ≤ 0; omega)
  rw [if_neg h17]
  by_cases h18 : P 9 i = 18
  · rw [if_pos h18, if_neg (show ¬ (30 ≤ P 9 i ∨ P 9 i = 22) by rw [h18]; decide)]
    rw [px_pop18 h18] at hpop
    rw [px_pop18 h18, if_neg (by rw [h18]; decide)] at hsl
    match st, h, g2, hlen, hTL, hlx, hsl, hpop with
    | y :: x :: s, h, g2, hlen, hTL, hlx, hsl, hpop =>
      have hTL : s.length + 2 ≤ 60 := hTL
      have hsl : (pt_T P a0 (i + 1)).length = s.length + 2 - 2 := hsl
      obtain ⟨w5, e1, g3, q4⟩ := pm_tpop g2 (by show base + (s.length + 1) < 512; omega)
      obtain ⟨w6, e2, g4, q5⟩ := pm_tpop g3 (by omega)
      obtain ⟨g5, q6⟩ := pm_tmem g4 (nn (x &&& 15)) y
      have hx15 := px_and15 x
      refine ⟨_, ?_, pm_fr_tr (pm_fr_tr (pm_fr_tr q3 q4) q5) q6, Or.inr ⟨i + 1, _, cl, _, rfl, g5, by rw [hsl]; omega, Or.inl rfl⟩⟩
      unfold fX3_moveWord fX3_moveWord_J156
      rw [if_neg h0, if_neg h17, if_pos h18, e1, Option.bind_some]
      show ((fX3_pop w5).bind _) = _
      rw [e2, Option.bind_some]
      show ((fX3_writeWord w6 x y).bind _) = _
      unfold fX3_writeWord
      rw [if_pos hx15]
      rfl
    | [], h, g2, hlen, hTL, hlx, hsl, hpop => exact absurd hpop (by show ¬ 2 ≤ 0; omega)
    | [x], h, g2, hlen, hTL, hlx, hsl, hpop => exact absurd hpop (by show ¬ 2 ≤ 1; omega)
  rw [if_neg h18, if_neg h20]
  by_cases h21 : P 9 i = 21
  · rw [if_pos h21, if_neg (show ¬ (30 ≤ P 9 i ∨ P 9 i = 22) by rw [h21]; decide)]
    rw [px_pop21 h21, if_neg (by rw [h21]; decide)] at hsl
    obtain ⟨u, u1, u2⟩ := hvar (Or.inr (Or.inr (Or.inr h21)))
    obtain ⟨v1, v2⟩ := hvx u u1
    have hun : nn (P 10 i) = u := by rw [u2, pu_nn (by omega)]
    obtain ⟨p1, p2⟩ := hpar h21
    rw [hun] at p1
    obtain ⟨g3, q4⟩ := pm_tset g2 (u := u) (ar.getD u 0)
    refine ⟨_, ?_, pm_fr_tr q3 q4, Or.inr ⟨i + 1, st, _, m, by rw [hun], g3, by rw [hsl]; omega, Or.inl rfl⟩⟩
    have hao : fX3_argumentOf w4 (pu_I c) (pu_I u) = some (ar.getD u 0) := by
      unfold fX3_argumentOf
      have hx : (pu_I c * 4 : Int32) + pu_I u = pu_I (c * 4 + u) := by rw [show (4 : Int32) = pu_I 4 from rfl, pv_mul, pv_add]
      rw [hx, if_pos ((pu_ix (by omega)).mpr (by omega)), pu_nn (by omega), g2.2.2.2.2 u p1]
    unfold fX3_moveWord fX3_moveWord_J156
    rw [if_neg h0, if_neg h17, if_neg h18, if_neg h20, if_pos h21, u2, hao, Option.bind_some, if_pos v1, v2]
    rfl
  rw [if_neg h21]
  by_cases h22 : P 9 i = 22
  · rw [if_pos h22, if_pos (Or.inr h22)]
    rw [px_pop22 h22, if_neg (by rw [h22]; decide)] at hsl
    obtain ⟨l1, s, l2, l3⟩ := hla (Or.inl h22)
    have hL : px_L P i = s := by show nn (P 13 (nn (P 10 i))) = s; rw [l2, pu_nn (by omega)]
    obtain ⟨g3, q4⟩ := pm_tat g2 s
    refine ⟨_, ?_, pm_fr_tr q3 q4, Or.inr ⟨px_L P i, st, cl, m, rfl, by rw [hL]; exact g3, by rw [hsl]; omega, Or.inr ⟨Or.inl h22, rfl⟩⟩⟩
    unfold fX3_moveVariable fX3_moveVariable_J221
    rw [if_pos h22, if_pos l1, if_pos hcx, hcn, l2]
    rfl
  rw [if_neg h22, if_neg h24]
  have n30 : ∀ k : Int32, P 9 i = k → ¬ k ≤ 21 → k ≠ 22 → k ≠ 24 → 30 ≤ P 9 i := fun k h h21' h22' h24' => by
    rcases hk2 with h9 | h9 | h9 | h9
    · rw [h] at h9; exact absurd h9 h21'
    · exact absurd (h.symm.trans h9) h22'
    · exact absurd (h.symm.trans h9) h24'
    · exact h9
  by_cases h30 : P 9 i = 30
  · rw [if_pos h30, if_pos (Or.inl (show 30 ≤ P 9 i by rw [h30]; decide))]
    rw [px_pop30 h30, if_pos (by rw [h30]; decide)] at hsl
    obtain ⟨u, u1, u2⟩ := hvar (Or.inl h30)
    obtain ⟨v1, v2⟩ := hvx u u1
    have hun : nn (P 10 i) = u := by rw [u2, pu_nn (by omega)]
    obtain ⟨w5, e1, g3, q4⟩ := pm_tpush g2 (by omega) (cl u)
    refine ⟨w5, ?_, pm_fr_tr q3 q4, Or.inr ⟨i + 1, _, cl, m, by rw [hun], g3, by rw [hsl]; rfl, Or.inl rfl⟩⟩
    unfold fX3_moveVariable fX3_moveVariable_J221
    rw [if_neg h22, if_neg (show ¬ P 9 i = 23 by rw [h30]; decide), if_neg h24, if_neg (show ¬ P 9 i = 25 by rw [h30]; decide), if_neg (show ¬ P 9 i = 26 by rw [h30]; decide), if_neg (show ¬ P 9 i = 27 by rw [h30]; decide), if_neg (show ¬ P 9 i = 28 by rw [h30]; decide), if_neg (show ¬ P 9 i = 29 by rw [h30]; decide), if_pos h30, u2, if_pos v1, v2, g2.2.2.1 u u1, e1]
    rfl
  rw [if_neg h30]
  have hmv0 : (30 ≤ P 9 i) → ¬ P 9 i = 30 → P 9 i ≠ 23 ∧ P 9 i ≠ 25 ∧ P 9 i ≠ 26 ∧ P 9 i ≠ 27 ∧ P 9 i ≠ 28 ∧ P 9 i ≠ 29 := fun h _ => by
    refine ⟨?_, ?_, ?_, ?_, ?_, ?_⟩ <;> (intro e; rw [e] at h; exact absurd h (by decide))
  by_cases h31 : P 9 i = 31
  · have h30' := n30 31 h31 (by decide) (by decide) (by decide)
    obtain ⟨m23, m25, m26, m27, m28, m29⟩ := hmv0 h30' h30
    rw [if_pos h31, if_pos (Or.inl h30')]
    rw [px_pop31 h31] at hpop
    rw [px_pop31 h31, if_neg (by rw [h31]; decide)] at hsl
    obtain ⟨u, u1, u2⟩ := hvar (Or.inr (Or.inl h31))
    obtain ⟨v1, v2⟩ := hvx u u1
    have hun : nn (P 10 i) = u := by rw [u2, pu_nn (by omega)]
    match st, h, g2, hlen, hTL, hlx, hsl, hpop with
    | x :: s, h, g2, hlen, hTL, hlx, hsl, hpop =>
      have hTL : s.length + 1 ≤ 60 := hTL
      have hsl : (pt_T P a0 (i + 1)).length = s.length + 1 - 1 := hsl
      obtain ⟨w5, e1, g3, q4⟩ := pm_tpop g2 (by omega)
      obtain ⟨g4, q5⟩ := pm_tset g3 (u := u) x
      refine ⟨_, ?_, pm_fr_tr (pm_fr_tr q3 q4) q5, Or.inr ⟨i + 1, s, _, m, by rw [hun], g4, by rw [hsl]; omega, Or.inl rfl⟩⟩
      unfold fX3_moveVariable fX3_moveVariable_J221
      rw [if_neg h22, if_neg m23, if_neg h24, if_neg m25, if_neg m26, if_neg m27, if_neg m28, if_neg m29, if_neg h30, if_pos h31, e1, Option.bind_some, u2, if_pos v1, v2]
      rfl
    | [], h, g2, hlen, hTL, hlx, hsl, hpop => exact absurd hpop (by show ¬ 1 ≤ 0; omega)
  rw [if_neg h31]
  by_cases h32 : P 9 i = 32
  · have h30' := n30 32 h32 (by decide) (by decide) (by decide)
    obtain ⟨m23, m25, m26, m27, m28, m29⟩ := hmv0 h30' h30
    rw [if_pos h32, if_pos (Or.inl h30')]
    rw [px_pop32 h32, if_neg (by rw [h32]; decide)] at hsl
    have h1 : 1 ≤ st.length := by rw [hlen]; exact hen.2.2.1 h32
    obtain ⟨u, u1, u2⟩ := hvar (Or.inr (Or.inr (Or.inl h32)))
    obtain ⟨v1, v2⟩ := hvx u u1
    have hun : nn (P 10 i) = u := by rw [u2, pu_nn (by omega)]
    match st, h, g2, hlen, hTL, hlx, hsl, h1 with
    | x :: s, h, g2, hlen, hTL, hlx, hsl, h1 =>
      have hTL : s.length + 1 ≤ 60 := hTL
      have hsl : (pt_T P a0 (i + 1)).length = s.length + 1 - 0 := hsl
      obtain ⟨w5, e1, g3, q4⟩ := pm_tpop g2 (by omega)
      obtain ⟨g4, q5⟩ := pm_tset g3 (u := u) x
      obtain ⟨w6, e2, g5, q6⟩ := pm_tpush g4 (by omega) x
      refine ⟨w6, ?_, pm_fr_tr (pm_fr_tr (pm_fr_tr q3 q4) q5) q6, Or.inr ⟨i + 1, x :: s, _, m, by rw [hun], g5, by rw [hsl]; rfl, Or.inl rfl⟩⟩
      unfold fX3_moveVariable fX3_moveVariable_J221
      rw [if_neg h22, if_neg m23, if_neg h24, if_neg m25, if_neg m26, if_neg m27, if_neg m28, if_neg m29, if_neg h30, if_neg h31, if_pos h32, e1, Option.bind_some, u2, if_pos v1, v2]
      simp only [lt9]
      have hval : upw w5 16 (c * 320 + u) x 16 (c * 320 + u) = x := by rw [pv_upw, if_pos ⟨rfl, rfl⟩]
      rw [if_pos v1]
      show ((fX3_push (upw w5 16 (c * 320 + u) x) (upw w5 16 (c * 320 + u) x 16 (c * 320 + u))).bind _) = _
      rw [hval, e2]
      rfl
    | [], h, g2, hlen, hTL, hlx, hsl, h1 => exact absurd h1 (by show ¬ 1 ≤ 0; omega)
  rw [if_neg h32]
  have hjmp : ∀ (b : Bool) (w5 : ST) (s : List Int32), (P 9 i = 33 ∨ P 9 i = 34) → pm_TX w5 f c base (i + 1) s cl m ar (t + tk) R → ∃ w', (if b = true then (if ixb (P 10 i) 640 = true then (if ixb (pu_I c) 8 = true then (lt9 (upw w5 12 (nn (pu_I c)) (P 13 (nn (P 10 i)))) fun (w33 : ST) => some w33) else none) else none) else some w5) = some w' ∧ pm_fr c base R w5 w' ∧ pm_TX w' f c base (if b = true then px_L P i else i + 1) s cl m ar (t + tk) R := by
    intro b w5 s hj g3
    obtain ⟨l1, z, l2, l3⟩ := hla (Or.inr hj)
    have hL : px_L P i = z := by show nn (P 13 (nn (P 10 i))) = z; rw [l2, pu_nn (by omega)]
    cases b with
    | true =>
      obtain ⟨g4, q5⟩ := pm_tat g3 z
      refine ⟨_, ?_, q5, by rw [if_pos rfl, hL]; exact g4⟩
      rw [if_pos rfl, if_pos l1, if_pos hcx, hcn, l2]
      rfl
    | false => exact ⟨w5, if_neg (by decide), pm_fr_rf _ _ _ _, by rw [if_neg (by decide)]; exact g3⟩
  by_cases h33 : P 9 i = 33
  · have h30' := n30 33 h33 (by decide) (by decide) (by decide)
    obtain ⟨m23, m25, m26, m27, m28, m29⟩ := hmv0 h30' h30
    rw [if_pos h33, if_pos (Or.inl h30')]
    rw [px_pop33 h33] at hpop
    rw [px_pop33 h33, if_neg (by rw [h33]; decide)] at hsl
    match st, h, g2, hlen, hTL, hlx, hsl, hpop with
    | x :: s, h, g2, hlen, hTL, hlx, hsl, hpop =>
      have hTL : s.length + 1 ≤ 60 := hTL
      have hsl : (pt_T P a0 (i + 1)).length = s.length + 1 - 1 := hsl
      obtain ⟨w5, e1, g3, q4⟩ := pm_tpop g2 (by omega)
      obtain ⟨w6, e2, q5, g4⟩ := hjmp (decide (x = 0)) w5 s (Or.inl h33) g3
      refine ⟨w6, ?_, pm_fr_tr (pm_fr_tr q3 q4) q5, Or.inr ⟨if x = 0 then px_L P i else i + 1, s, cl, m, rfl, ?_, by rw [hsl]; omega, ?_⟩⟩
      · unfold fX3_moveVariable fX3_moveVariable_J221
        rw [if_neg h22, if_neg m23, if_neg h24, if_neg m25, if_neg m26, if_neg m27, if_neg m28, if_neg m29, if_neg h30, if_neg h31, if_neg h32, if_pos h33, e1, Option.bind_some, ← e2]
        by_cases hx : x = 0
        · rw [if_pos (show decide (x = 0) = true from decide_eq_true hx)]
          exact if_pos hx
        · rw [if_neg (show ¬ decide (x = 0) = true from fun h => hx (of_decide_eq_true h))]
          exact if_neg hx
      · by_cases hx : x = 0
        · rw [if_pos (decide_eq_true hx)] at g4
          rw [if_pos hx]; exact g4
        · rw [if_neg fun h => hx (of_decide_eq_true h)] at g4
          rw [if_neg hx]; exact g4
      · by_cases hx : x = 0
        · rw [if_pos hx]; exact Or.inr ⟨Or.inr (Or.inl h33), rfl⟩
        · rw [if_neg hx]; exact Or.inl rfl
    | [], h, g2, hlen, hTL, hlx, hsl, hpop => exact absurd hpop (by show ¬ 1 ≤ 0; omega)
  rw [if_neg h33]
  by_cases h34 : P 9 i = 34
  · have h30' := n30 34 h34 (by decide) (by decide) (by decide)
    obtain ⟨m23, m25, m26, m27, m28, m29⟩ := hmv0 h30' h30
    rw [if_pos h34, if_pos (Or.inl h30')]
    rw [px_pop34 h34] at hpop
    rw [px_pop34 h34, if_neg (by rw [h34]; decide)] at hsl
    match st, h, g2, hlen, hTL, hlx, hsl, hpop with
    | x :: s, h, g2, hlen, hTL, hlx, hsl, hpop =>
      have hTL : s.length + 1 ≤ 60 := hTL
      have hsl : (pt_T P a0 (i + 1)).length = s.length + 1 - 1 := hsl
      obtain ⟨w5, e1, g3, q4⟩ := pm_tpop g2 (by omega)
      obtain ⟨w6, e2, q5, g4⟩ := hjmp (!decide (x = 0)) w5 s (Or.inr h34) g3
      refine ⟨w6, ?_, pm_fr_tr (pm_fr_tr q3 q4) q5, Or.inr ⟨if x = 0 then i + 1 else px_L P i, s, cl, m, rfl, ?_, by rw [hsl]; omega, ?_⟩⟩
      · unfold fX3_moveVariable fX3_moveVariable_J221
        rw [if_neg h22, if_neg m23, if_neg h24, if_neg m25, if_neg m26, if_neg m27, if_neg m28, if_neg m29, if_neg h30, if_neg h31, if_neg h32, if_neg h33, if_pos h34, e1, Option.bind_some, ← e2]
        by_cases hx : x = 0
        · rw [if_neg (show ¬ (!decide (x = 0)) = true by rw [decide_eq_true hx]; decide)]
          exact if_pos hx
        · rw [if_pos (show (!decide (x = 0)) = true by rw [decide_eq_false hx]; rfl)]
          exact if_neg hx
      · by_cases hx : x = 0
        · rw [if_neg (show ¬ (!decide (x = 0)) = true by rw [decide_eq_true hx]; decide)] at g4
          rw [if_pos hx]; exact g4
        · rw [if_pos (show (!decide (x = 0)) = true by rw [decide_eq_false hx]; rfl)] at g4
          rw [if_neg hx]; exact g4
      · by_cases hx : x = 0
        · rw [if_pos hx]; exact Or.inl rfl
        · rw [if_neg hx]; exact Or.inr ⟨Or.inr (Or.inr h34), rfl⟩
    | [], h, g2, hlen, hTL, hlx, hsl, hpop => exact absurd hpop (by show ¬ 1 ≤ 0; omega)
  rw [if_neg h34]
  by_cases h36 : P 9 i = 36
  · have h30' := n30 36 h36 (by decide) (by decide) (by decide)
    obtain ⟨m23, m25, m26, m27, m28, m29⟩ := hmv0 h30' h30
    rw [if_pos h36, if_pos (Or.inl h30')]
    rw [px_pop36 h36] at hpop
    rw [px_pop36 h36, if_neg (by rw [h36]; decide)] at hsl
    match st, h, g2, hlen, hTL, hlx, hsl, hpop with
    | x :: s, h, g2, hlen, hTL, hlx, hsl, hpop =>
      have hTL : s.length + 1 ≤ 60 := hTL
      have hsl : (pt_T P a0 (i + 1)).length = s.length + 1 - 1 := hsl
      obtain ⟨w5, e1, g3, q4⟩ := pm_tpop g2 (by omega)
      refine ⟨w5, ?_, pm_fr_tr q3 q4, Or.inr ⟨i + 1, s, cl, m, rfl, g3, by rw [hsl]; omega, Or.inl rfl⟩⟩
      unfold fX3_moveVariable fX3_moveVariable_J221
      rw [if_neg h22, if_neg m23, if_neg h24, if_neg m25, if_neg m26, if_neg m27, if_neg m28, if_neg m29, if_neg h30, if_neg h31, if_neg h32, if_neg h33, if_neg h34, if_neg (show ¬ P 9 i = 35 by rw [h36]; decide), if_pos h36, e1, Option.bind_some]
    | [], h, g2, hlen, hTL, hlx, hsl, hpop => exact absurd hpop (by show ¬ 1 ≤ 0; omega)
  rw [if_neg h36]
  -- what does nothing
  have hidle : (if 30 ≤ P 9 i ∨ P 9 i = 22 then fX3_moveVariable w4 (pu_I c) (P 9 i) (P 10 i) P else fX3_moveWord n17 w4 (pu_I c) (P 9 i) (P 10 i) P) = some w4 := by
    by_cases h30' : 30 ≤ P 9 i
    · obtain ⟨m23, m25, m26, m27, m28, m29⟩ := hmv0 h30' h30
      rw [if_pos (Or.inl h30')]
      unfold fX3_moveVariable fX3_moveVariable_J221
      rw [if_neg h22, if_neg m23, if_neg h24, if_neg m25, if_neg m26, if_neg m27, if_neg m28, if_neg m29, if_neg h30, if_neg h31, if_neg h32, if_neg h33, if_neg h34]
      by_cases h35 : P 9 i = 35
      · rw [if_pos h35]
      · rw [if_neg h35, if_neg h36]
    · rw [if_neg fun h => h.elim h30' h22]
      unfold fX3_moveWord fX3_moveWord_J156
      rw [if_neg h0, if_neg h17, if_neg h18, if_neg h20, if_neg h21, if_neg h24]
  have hpp : pt_pop P i = 0 ∧ ¬ pt_gv (P 9 i) = true := by
    have hur : ¬ pu_ur (P 9 i) = true := by
      unfold pu_ur
      rw [decide_eq_true_iff]
      rintro (h | h)
      · exact ho (by unfold pu_isop; exact decide_eq_true h)
      · exact h18 h
    have hone : ¬ pt_one (P 9 i) = true := by
      unfold pt_one
      rw [decide_eq_true_iff]
      rintro (h | h | h | h | h | h)
      · exact h17 h
      · exact h31 h
      · exact h36 h
      · exact h24 h
      · exact h33 h
      · exact h34 h
    refine ⟨?_, ?_⟩
    · unfold pt_pop
      rw [if_neg hur]
      by_cases h19 : P 9 i = 19
      · rw [if_pos h19]
      · rw [if_neg h19, if_neg h32, if_neg hone, if_neg h20]
    · unfold pt_gv
      rw [Bool.or_eq_true, decide_eq_true_iff]
      rintro (h | h | h | h | h)
      · exact ho h
      · exact h0 h
      · exact h17 h
      · exact h20 h
      · exact h30 h
  rw [hpp.1, if_neg hpp.2] at hsl
  exact ⟨w4, hidle, q3, Or.inr ⟨i + 1, st, cl, m, rfl, g2, by rw [hsl]; rfl, Or.inl rfl⟩⟩
end TY
