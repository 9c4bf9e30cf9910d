/-! pure side, stores 10: homes; what may be lifted -/
/-- homes and givers are right -/
def pv_hom (w w2 : ST) (B : Nat) (ch ph : Nat → List Nat) (g : ST) : Prop :=
  (∀ b, b < B → ∀ a ∈ ph b, g 3 (nn (w 19 a)) = pu_I b) ∧ (∀ b, b < B → ∀ a ∈ ch b, ¬ w2 3 a < 0 → g 3 (nn (w2 3 a)) = pu_I b ∧ g 2 (nn (w2 3 a)) = pu_I a)
section LA
variable {n n2 : Nat → Nat} {w w2 : ST} {B N M : Nat} {ch ph : Nat → List Nat}
theorem pv_findHomes {g : ST} {hm gi : Nat → Nat} (hok : pv_ok n w n2 w2 B N M ch ph) (h1 : ∀ b, b < B → ∀ a ∈ ph b, hm (nn (w 19 a)) = b) (h2 : ∀ b, b < B → ∀ a ∈ ch b, ¬ w2 3 a < 0 → hm (nn (w2 3 a)) = b ∧ gi (nn (w2 3 a)) = a) :
    ∃ g', fX5_findGivers g n w n2 w2 = some g' ∧ pv_hom w w2 B ch ph g' := by
  obtain ⟨⟨hw0, _, hB⟩, ⟨_, hN3, _, _, hN6, hN⟩, ⟨hM19, hM20, _, hM⟩, hst, hd, hph, hdp, hix, hix2⟩ := hok
  obtain ⟨f1, a1, a2⟩ := pv_fill (n := 250) (f := g 2) (v := -1) (by decide)
  obtain ⟨f2, b1, b2⟩ := pv_fill (n := 250) (f := srw g 2 f1 3) (v := -1) (by decide)
  -- what is right stays right
  have w3 : ∀ (s : ST) (v i u b : Nat), hm v = i → hm u = b → s 3 u = pu_I b → upw s 3 v (pu_I i) 3 u = pu_I b := by
    intro s v i u b hv hu hs
    rw [pv_upw]
    by_cases h : u = v
    · rw [if_pos ⟨rfl, h⟩, ← hv, ← hu, h]
    · rw [if_neg (fun c => h c.2)]; exact hs
  have w2' : ∀ (s : ST) (v a u z : Nat), gi v = a → gi u = z → s 2 u = pu_I z → upw s 2 v (pu_I a) 2 u = pu_I z := by
    intro s v i u b hv hu hs
    rw [pv_upw]
    by_cases h : u = v
    · rw [if_pos ⟨rfl, h⟩, ← hv, ← hu, h]
    · rw [if_neg (fun c => h c.2)]; exact hs
  have hrun := pv_for (G := fun k i (s : ST) => fX5_findGivers_L18 n w n2 w2 k i s) (hi := B)
    (Inv := fun i (s : ST) => (∀ b, b < B → b < i → ∀ a ∈ ph b, s 3 (nn (w 19 a)) = pu_I b) ∧ (∀ b, b < B → b < i → ∀ a ∈ ch b, ¬ w2 3 a < 0 → s 3 (nn (w2 3 a)) = pu_I b ∧ s 2 (nn (w2 3 a)) = pu_I a)) (Q := fun (s : ST) => pv_hom w w2 B ch ph s)
    ?_ ?_ B 0 NF (srw (srw g 2 f1) 3 f2) (by omega) (by have := pv_NF; omega) ⟨fun b _ h => absurd h (Nat.not_lt_zero _), fun b _ h => absurd h (Nat.not_lt_zero _)⟩
  · obtain ⟨t, h1, h2⟩ := hrun
    refine ⟨t, ?_, h2⟩
    unfold fX5_findGivers
    have h1 : fX5_findGivers_L18 n w n2 w2 NF 0 (srw (srw g 2 f1) 3 f2) = some t := h1
    rw [a1, Option.bind_some, b1, Option.bind_some, h1, Option.bind_some]
  · intro k i s hi hI
    have hi31 : i < 2147483648 := by omega
    have hii : ixb (pu_I i) 60 = true := (pu_ix hi31).mpr (by omega)
    obtain ⟨s1, c1, c2, c3⟩ := pv_chl (G := fun k x (s : ST) => fX5_findGivers_L33 n w (pu_I i) k x s) (nx := w 20)
      (Inv := fun done rem (s : ST) => (∀ a, a ∈ done ∨ a ∈ rem ↔ a ∈ ph i) ∧ ((∀ b, b < B → b < i → ∀ a ∈ ph b, s 3 (nn (w 19 a)) = pu_I b) ∧ (∀ b, b < B → b < i → ∀ a ∈ ch b, ¬ w2 3 a < 0 → s 3 (nn (w2 3 a)) = pu_I b ∧ s 2 (nn (w2 3 a)) = pu_I a)) ∧ (∀ a ∈ done, s 3 (nn (w 19 a)) = pu_I i))
      (Q := fun (s : ST) => ((∀ b, b < B → b < i → ∀ a ∈ ph b, s 3 (nn (w 19 a)) = pu_I b) ∧ (∀ b, b < B → b < i → ∀ a ∈ ch b, ¬ w2 3 a < 0 → s 3 (nn (w2 3 a)) = pu_I b ∧ s 2 (nn (w2 3 a)) = pu_I a)) ∧ (∀ a ∈ ph i, s 3 (nn (w 19 a)) = pu_I i))
      (fun k a done rem s hI => by
        obtain ⟨i1, ⟨i2, i3⟩, i4⟩ := hI
        have ha : a ∈ ph i := (i1 a).mp (Or.inr List.mem_cons_self)
        have haM := hdp.1 i hi a ha
        have ha31 : a < 2147483648 := by omega
        have hma := h1 i hi a ha
        refine ⟨upw s 3 (nn (w 19 a)) (pu_I i), ?_, fun z => by rw [← i1 z, List.mem_append, List.mem_singleton, List.mem_cons, or_assoc], ⟨fun b hb hbi z hz => w3 _ _ _ _ _ hma (h1 b hb z hz) (i2 b hb hbi z hz), fun b hb hbi z hz h0 => ⟨w3 _ _ _ _ _ hma (h2 b hb z hz h0).1 (i3 b hb hbi z hz h0).1, by rw [pv_upw_n (q := 2) (r := 3) (by decide)]; exact (i3 b hb hbi z hz h0).2⟩⟩, fun z hz => ?_⟩
        · show (if pu_I a < 0 then some s else (if ixb (pu_I a) (n 19) = true then (if ixb (w 19 (nn (pu_I a))) 250 = true then (lt9 (upw s 3 (nn (w 19 (nn (pu_I a)))) (pu_I i)) fun (w8 : ST) => (if ixb (pu_I a) (n 20) = true then ((fX5_findGivers_L33 n w (pu_I i) k) (w 20 (nn (pu_I a))) w8) else none)) else none) else none)) = _
          rw [if_neg (pu_ge ha31), if_pos ((pu_ix ha31).mpr (by omega)), pu_nn ha31, if_pos (hix i hi a ha)]
          simp only [lt9]
          rw [if_pos ((pu_ix ha31).mpr (by omega))]
        · rcases List.mem_append.mp hz with h | h
          · exact w3 _ _ _ _ _ hma (h1 i hi z ((i1 z).mp (Or.inl h))) (i4 z h)
          · rw [List.mem_singleton.mp h, pv_upw, if_pos ⟨rfl, rfl⟩])
      (fun k x done s hx hI => ⟨s, by
        show (if x < 0 then some s else _) = _
        rw [if_pos hx], hI.2.1, fun a ha => hI.2.2 a (((hI.1 a).mpr ha).resolve_right (by simp))⟩) (ph i) [] (w 6 i) NF s (hph.1 i hi) (by have := pv_len M (ph i) (hdp.2.1 i hi) (hdp.1 i hi); have := pv_NF; omega) ⟨fun a => by simp, hI, fun a ha => (by cases ha)⟩
    obtain ⟨s2, d1, d2, d3, d4⟩ := pv_chl (G := fun k x (s : ST) => fX5_findGivers_L66 n2 w2 (pu_I i) k x s) (nx := w2 6)
      (Inv := fun done rem (s : ST) => (∀ a, a ∈ done ∨ a ∈ rem ↔ a ∈ ch i) ∧ ((∀ b, b < B → b < i → ∀ a ∈ ph b, s 3 (nn (w 19 a)) = pu_I b) ∧ (∀ b, b < B → b < i → ∀ a ∈ ch b, ¬ w2 3 a < 0 → s 3 (nn (w2 3 a)) = pu_I b ∧ s 2 (nn (w2 3 a)) = pu_I a)) ∧ (∀ a ∈ ph i, s 3 (nn (w 19 a)) = pu_I i) ∧ (∀ a ∈ done, ¬ w2 3 a < 0 → s 3 (nn (w2 3 a)) = pu_I i ∧ s 2 (nn (w2 3 a)) = pu_I a))
      (Q := fun (s : ST) => ((∀ b, b < B → b < i → ∀ a ∈ ph b, s 3 (nn (w 19 a)) = pu_I b) ∧ (∀ b, b < B → b < i → ∀ a ∈ ch b, ¬ w2 3 a < 0 → s 3 (nn (w2 3 a)) = pu_I b ∧ s 2 (nn (w2 3 a)) = pu_I a)) ∧ (∀ a ∈ ph i, s 3 (nn (w 19 a)) = pu_I i) ∧ (∀ a ∈ ch i, ¬ w2 3 a < 0 → s 3 (nn (w2 3 a)) = pu_I i ∧ s 2 (nn (w2 3 a)) = pu_I a))
      (fun k a done rem s hI => by
        obtain ⟨i1, ⟨i2, i3⟩, i4, i5⟩ := hI
        have ha : a ∈ ch i := (i1 a).mp (Or.inr List.mem_cons_self)
        have haN := hd.1 i hi a ha
        have ha31 : a < 2147483648 := by omega
        have hnext : ∀ z, z ∈ done ++ [a] ∨ z ∈ rem ↔ z ∈ ch i := fun z => by rw [← i1 z, List.mem_append, List.mem_singleton, List.mem_cons, or_assoc]
        by_cases h0 : w2 3 a < 0
        · refine ⟨s, ?_, hnext, ⟨i2, i3⟩, i4, fun z hz hz0 => ?_⟩
          · show (if pu_I a < 0 then some s else (if ixb (pu_I a) (n2 3) = true then (if w2 3 (nn (pu_I a)) < 0 then fX5_findGivers_J102 (fX5_findGivers_L66 n2 w2 (pu_I i) k) n2 w2 (pu_I a) s else _) else none)) = _
            rw [if_neg (pu_ge ha31), if_pos ((pu_ix ha31).mpr (by omega)), pu_nn ha31, if_pos h0]
            unfold fX5_findGivers_J102
            rw [if_pos ((pu_ix ha31).mpr (by omega)), pu_nn ha31]
          · rcases List.mem_append.mp hz with h | h
            · exact i5 z h hz0
            · rw [List.mem_singleton.mp h] at hz0
              exact absurd h0 hz0
        · have hx := (hix2 i hi a ha).resolve_left h0
          have hma := h2 i hi a ha h0
          refine ⟨upw (upw s 2 (nn (w2 3 a)) (pu_I a)) 3 (nn (w2 3 a)) (pu_I i), ?_, hnext, ⟨fun b hb hbi z hz => ?_, fun b hb hbi z hz hz0 => ⟨?_, ?_⟩⟩, fun z hz => ?_, fun z hz hz0 => ?_⟩
          · show (if pu_I a < 0 then some s else (if ixb (pu_I a) (n2 3) = true then (if w2 3 (nn (pu_I a)) < 0 then _ else (if ixb (w2 3 (nn (pu_I a))) 250 = true then (lt9 (upw s 2 (nn (w2 3 (nn (pu_I a)))) (pu_I a)) fun (w16 : ST) => (if ixb (w2 3 (nn (pu_I a))) 250 = true then (lt9 (upw w16 3 (nn (w2 3 (nn (pu_I a)))) (pu_I i)) fun (w18 : ST) => (fX5_findGivers_J102 (fX5_findGivers_L66 n2 w2 (pu_I i) k) n2 w2 (pu_I a) w18)) else none)) else none)) else none)) = _
            rw [if_neg (pu_ge ha31), if_pos ((pu_ix ha31).mpr (by omega)), pu_nn ha31, if_neg h0, if_pos hx]
            simp only [lt9]
            rw [if_pos hx]
            unfold fX5_findGivers_J102
            rw [if_pos ((pu_ix ha31).mpr (by omega)), pu_nn ha31]
          · exact w3 _ _ _ _ _ hma.1 (h1 b hb z hz) (by rw [pv_upw_n (q := 3) (r := 2) (by decide)]; exact i2 b hb hbi z hz)
          · exact w3 _ _ _ _ _ hma.1 (h2 b hb z hz hz0).1 (by rw [pv_upw_n (q := 3) (r := 2) (by decide)]; exact (i3 b hb hbi z hz hz0).1)
          · rw [pv_upw_n (q := 2) (r := 3) (by decide)]
            exact w2' _ _ _ _ _ hma.2 (h2 b hb z hz hz0).2 (i3 b hb hbi z hz hz0).2
          · exact w3 _ _ _ _ _ hma.1 (h1 i hi z hz) (by rw [pv_upw_n (q := 3) (r := 2) (by decide)]; exact i4 z hz)
          · rcases List.mem_append.mp hz with h | h
            · have hz2 := h2 i hi z ((i1 z).mp (Or.inl h)) hz0
              refine ⟨w3 _ _ _ _ _ hma.1 hz2.1 (by rw [pv_upw_n (q := 3) (r := 2) (by decide)]; exact (i5 z h hz0).1), ?_⟩
              rw [pv_upw_n (q := 2) (r := 3) (by decide)]
              exact w2' _ _ _ _ _ hma.2 hz2.2 (i5 z h hz0).2
            · rw [List.mem_singleton.mp h, pv_upw, if_pos ⟨rfl, rfl⟩, pv_upw_n (q := 2) (r := 3) (by decide), pv_upw, if_pos ⟨rfl, rfl⟩]
              exact ⟨rfl, rfl⟩)
      (fun k x done s hx hI => ⟨s, by
        show (if x < 0 then some s else _) = _
        rw [if_pos hx], hI.2.1, hI.2.2.1, fun a ha => hI.2.2.2 a (((hI.1 a).mpr ha).resolve_right (by simp))⟩) (ch i) [] (w 4 i) NF s1 (hst.1 i hi) (by have := pv_len N (ch i) (hd.2.1 i hi) (hd.1 i hi); have := pv_NF; omega) ⟨fun a => by simp, c2, c3, fun a ha => (by cases ha)⟩
    refine ⟨s2, ?_, fun b hb hbi a ha => ?_, fun b hb hbi a ha => ?_⟩
    · show (if w 0 0 ≤ pu_I i then some s else (if ixb (pu_I i) 60 = true then ((fX5_findGivers_L33 n w (pu_I i) NF (w 6 (nn (pu_I i))) s).bind fun (o33 : ST) => (if ixb (pu_I i) 60 = true then ((fX5_findGivers_L66 n2 w2 (pu_I i) NF (w 4 (nn (pu_I i))) o33).bind fun (o66 : ST) => ((fX5_findGivers_L18 n w n2 w2 k) (pu_I i + 1) o66)) else none)) else none)) = _
      have c1 : fX5_findGivers_L33 n w (pu_I i) NF (w 6 i) s = some s1 := c1
      have d1 : fX5_findGivers_L66 n2 w2 (pu_I i) NF (w 4 i) s1 = some s2 := d1
      rw [hw0, if_neg (by rw [pu_le (by omega) hi31]; omega), if_pos hii, pu_nn hi31, c1, Option.bind_some, if_pos hii, d1, Option.bind_some, pu_su]
    · by_cases h : b = i
      · subst h; exact d3 a ha
      · exact d2.1 b hb (by omega) a ha
    · by_cases h : b = i
      · subst h; exact d4 a ha
      · exact d2.2 b hb (by omega) a ha
  · intro k s hI
    refine ⟨s, ?_, fun b hb a ha => hI.1 b hb hb a ha, fun b hb a ha => hI.2 b hb hb a ha⟩
    show (if w 0 0 ≤ pu_I B then some s else _) = _
    rw [hw0, if_pos (Int32.le_refl _)]
/-- mayFail, over less -/
theorem pv_mayFail2 {g : ST} {a : Nat} (hN2 : N ≤ n2 2) (hN4 : N ≤ n2 4) (hN5 : N ≤ n2 5) (hN : N < 50000) (haN : a < N) (hrr : pu_ur (w2 2 a) = true → ixb (w2 5 a) 250 = true) (hg : ∀ v, v < 250 → ¬ g 2 v < 0 → ∃ z, z < N ∧ g 2 v = pu_I z) : fX5_mayFail g (pu_I a) n2 w2 = some (pv_b (pv_mf g w2 a)) := by
  have ha31 : a < 2147483648 := by omega
  have hi2 : ixb (pu_I a) (n2 2) = true := (pu_ix ha31).mpr (by omega)
  have hi5 : ixb (pu_I a) (n2 5) = true := (pu_ix ha31).mpr (by omega)
  have hJ : (w2 2 a = 4 ∨ w2 2 a = 5) → fX5_mayFail_J22 g (pu_I a) n2 w2 = some (pv_b (pv_mf g w2 a)) := by
    intro h45
    have hr := hrr (pv_ur45 h45)
    unfold fX5_mayFail_J22
    rw [if_pos hi5, pu_nn ha31]
    unfold fX5_isNumber fX5_isNumber_J30 fX5_isNumber_J31
    rw [if_pos hr]
    by_cases h0 : g 2 (nn (w2 5 a)) < 0
    · have hm : pv_mf g w2 a = true := by
        unfold pv_mf
        rw [decide_eq_true_iff]
        exact ⟨h45, fun c => c.1 h0⟩
      rw [if_pos h0, if_pos (Or.inl rfl), hm]
      rfl
    · obtain ⟨a2, ha2N, e1⟩ := hg _ (pv_ixn hr).2 h0
      have ha231 : a2 < 2147483648 := by omega
      rw [if_neg h0, if_pos hr, e1, if_pos ((pu_ix ha231).mpr (by omega)), pu_nn ha231]
      by_cases hk : w2 2 a2 = 0
      · rw [if_pos hk, if_pos (Or.inr rfl)]
        rw [Option.bind_some, if_neg (by decide)]
        unfold fX5_numberOf
        rw [if_pos hr, e1, if_pos ((pu_ix ha231).mpr (by omega)), pu_nn ha231]
        rw [Option.bind_some]
        unfold fX5_mayFail_J53 fX5_mayFail_J58
        by_cases hz : w2 4 a2 = 0
        · have hm : pv_mf g w2 a = true := by
            unfold pv_mf
            rw [decide_eq_true_iff, e1, pu_nn ha231]
            exact ⟨h45, fun c => c.2.2 hz⟩
          rw [if_pos hz, if_pos (Or.inr rfl), hm]
          rfl
        · have hm : pv_mf g w2 a = false := by
            unfold pv_mf
            rw [decide_eq_false_iff_not, e1, pu_nn ha231]
            exact fun c => c.2 ⟨pu_ge ha231, hk, hz⟩
          rw [if_neg hz, if_pos (Or.inl rfl), hm]
          rfl
      · have hm : pv_mf g w2 a = true := by
          unfold pv_mf
          rw [decide_eq_true_iff, e1, pu_nn ha231]
          exact ⟨h45, fun c => hk c.2.1⟩
        rw [if_neg hk, if_pos (Or.inl rfl), hm]
        rfl
  unfold fX5_mayFail
  rw [if_pos hi2, pu_nn ha31]
  by_cases h4 : w2 2 a = 4
  · rw [if_pos h4]; exact hJ (Or.inl h4)
  · rw [if_neg h4]
    by_cases h5 : w2 2 a = 5
    · rw [if_pos h5]; exact hJ (Or.inr h5)
    · rw [if_neg h5]
      have hm : pv_mf g w2 a = false := by
        unfold pv_mf
        rw [decide_eq_false_iff_not]
        exact fun c => c.1.elim h4 h5
      rw [hm]
      rfl
def pv_ml (g w2 : ST) (x : Int64) (a : Nat) : Bool := decide (w2 2 a = 0) || (pu_isop (w2 2 a) && (!pv_mf g w2 a && (!pv_bt x (nn (g 3 (nn (w2 4 a)))) && !pv_bt x (nn (g 3 (nn (w2 5 a)))))))
theorem pv_mayLift {g : ST} {x : Int64} {a : Nat} (hN2 : N ≤ n2 2) (hN4 : N ≤ n2 4) (hN5 : N ≤ n2 5) (hN : N < 50000) (haN : a < N) (hr : (pu_ul (w2 2 a) = true → ixb (w2 4 a) 250 = true) ∧ (pu_ur (w2 2 a) = true → ixb (w2 5 a) 250 = true)) (hg : ∀ v, v < 250 → ¬ g 2 v < 0 → ∃ z, z < N ∧ g 2 v = pu_I z)
    (hh : (pu_ul (w2 2 a) = true → ∃ h, h < 60 ∧ g 3 (nn (w2 4 a)) = pu_I h) ∧ (pu_ur (w2 2 a) = true → ∃ h, h < 60 ∧ g 3 (nn (w2 5 a)) = pu_I h)) : fX5_mayLift g (pu_I a) x n2 w2 = some (pv_b (pv_ml g w2 x a)) := by
  have ha31 : a < 2147483648 := by omega
  have hi2 : ixb (pu_I a) (n2 2) = true := (pu_ix ha31).mpr (by omega)
  have hi4 : ixb (pu_I a) (n2 4) = true := (pu_ix ha31).mpr (by omega)
  have hi5 : ixb (pu_I a) (n2 5) = true := (pu_ix ha31).mpr (by omega)
  unfold fX5_mayLift fX5_mayLift_J81 fX5_mayLift_J82
  rw [if_pos hi2, pu_nn ha31]
  by_cases h0 : w2 2 a = 0
  · rw [if_pos h0]
    unfold pv_ml
    simp [h0, pv_b]
  · rw [if_neg h0, pv_isop, Option.bind_some]
    by_cases ho : pu_isop (w2 2 a) = true
    · have hu := pu_op_u ho
      rw [ho, if_neg (by decide), pv_mayFail2 hN2 hN4 hN5 hN haN hr.2 hg, Option.bind_some]
      by_cases hm : pv_mf g w2 a = true
      · rw [hm, if_neg (by decide), if_pos (Or.inl rfl)]
        unfold pv_ml
        simp [h0, hm, pv_b]
      · have hm : pv_mf g w2 a = false := by simpa using hm
        obtain ⟨hl, hl1, hl2⟩ := hh.1 hu.1
        obtain ⟨hr1, hr2, hr3⟩ := hh.2 hu.2
        rw [hm, if_pos (by decide), if_pos hi4, if_pos (hr.1 hu.1), hl2, pv_holds (by omega), Option.bind_some]
        by_cases hb1 : pv_bt x hl = true
        · rw [hb1, if_neg (by decide), if_pos (Or.inl rfl)]
          unfold pv_ml
          rw [hl2, pu_nn (by omega)]
          simp [h0, hb1, pv_b]
        · have hb1 : pv_bt x hl = false := by simpa using hb1
          rw [hb1, if_pos (by decide), if_pos hi5, if_pos (hr.2 hu.2), hr3, pv_holds (by omega), Option.bind_some]
          by_cases hb2 : pv_bt x hr1 = true
          · rw [hb2, if_neg (by decide), if_pos (Or.inl rfl)]
            unfold pv_ml
            rw [hr3, pu_nn (by omega)]
            simp [h0, hb2, pv_b]
          · have hb2 : pv_bt x hr1 = false := by simpa using hb2
            rw [hb2, if_pos (by decide), if_pos (Or.inr rfl)]
            unfold pv_ml
            rw [hl2, hr3, pu_nn (by omega), pu_nn (by omega)]
            simp [h0, hb1, hb2, hm, ho, pv_b]
    · have ho : pu_isop (w2 2 a) = false := by simpa using ho
      rw [ho, if_pos (by decide), if_pos (Or.inl rfl)]
      unfold pv_ml
      simp [h0, ho, pv_b]
end LA
