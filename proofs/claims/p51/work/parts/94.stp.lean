/-! pure side, stores 25: the values that are put aside are marked -/
theorem pv_L118 {w g : ST} {L : Nat} (hL : L ≤ 250) (hw : w 0 1 = pu_I L) :
    ∃ c g', fX5_joinEquals_L118 w NF 0 0 g = some (pu_I c, g') ∧ c ≤ 250 ∧ (∀ r, r ≠ 7 → g' r = g r) ∧ ∀ v, v < L → g' 7 v = if g 6 v < 0 then 0 else 1 := by
  obtain ⟨⟨x, g'⟩, h1, h2⟩ := pv_for (G := fun k i (s : Int32 × ST) => fX5_joinEquals_L118 w k s.1 i s.2) (hi := L)
    (Inv := fun i (s : Int32 × ST) => (∃ c, s.1 = pu_I c ∧ c ≤ i) ∧ (∀ r, r ≠ 7 → s.2 r = g r) ∧ ∀ v, v < i → s.2 7 v = if g 6 v < 0 then 0 else 1)
    (Q := fun (s : Int32 × ST) => (∃ c, s.1 = pu_I c ∧ c ≤ L) ∧ (∀ r, r ≠ 7 → s.2 r = g r) ∧ ∀ v, v < L → s.2 7 v = if g 6 v < 0 then 0 else 1)
    (fun k i s hi hI => by
      obtain ⟨x, s⟩ := s
      obtain ⟨⟨c, hx, hc⟩, i2, i3⟩ := hI
      have hx : x = pu_I c := hx
      subst hx
      have i2 : ∀ r, r ≠ 7 → s r = g r := i2
      have i3 : ∀ v, v < i → s 7 v = if g 6 v < 0 then 0 else 1 := i3
      have hi31 : i < 2147483648 := by omega
      have hii : ixb (pu_I i) 250 = true := (pu_ix hi31).mpr (by omega)
      have r6 : s 6 = g 6 := i2 6 (by decide)
      have hend : ∀ y m : Int32, (∃ c', y = pu_I c' ∧ c' ≤ i + 1) → (m = if g 6 i < 0 then 0 else 1) → (∃ c', (y, upw s 7 i m).1 = pu_I c' ∧ c' ≤ i + 1) ∧ (∀ r, r ≠ 7 → (y, upw s 7 i m).2 r = g r) ∧ ∀ v, v < i + 1 → (y, upw s 7 i m).2 7 v = if g 6 v < 0 then 0 else 1 := by
        intro y m hy hm
        refine ⟨hy, fun r hr => ?_, fun v hv => ?_⟩
        · show upw s 7 i m r = g r
          rw [pv_upw_n hr, i2 r hr]
        · show upw s 7 i m 7 v = _
          rw [pv_upw]
          by_cases h : v = i
          · rw [if_pos ⟨rfl, h⟩, hm, h]
          · rw [if_neg fun c => h c.2]
            exact i3 v (by omega)
      have hform : fX5_joinEquals_L118 w (k + 1) (pu_I c) (pu_I i) s = (if 0 ≤ g 6 i then (if g 6 i < 0 then fX5_joinEquals_L118 w k (pu_I c + 1) (pu_I (i + 1)) (upw s 7 i 0) else fX5_joinEquals_L118 w k (pu_I c + 1) (pu_I (i + 1)) (upw s 7 i 1)) else (if s 7 i = 0 then (if g 6 i < 0 then fX5_joinEquals_L118 w k (pu_I c + 0) (pu_I (i + 1)) (upw s 7 i 0) else fX5_joinEquals_L118 w k (pu_I c + 0) (pu_I (i + 1)) (upw s 7 i 1)) else (if g 6 i < 0 then fX5_joinEquals_L118 w k (pu_I c + 1) (pu_I (i + 1)) (upw s 7 i 0) else fX5_joinEquals_L118 w k (pu_I c + 1) (pu_I (i + 1)) (upw s 7 i 1)))) := by
        show (if (w 0 1) ≤ pu_I i then some (pu_I c, s) else (if ixb (pu_I i) 250 = true then (if 0 ≤ (s 6 (nn (pu_I i))) then (fX5_joinEquals_J148 (fX5_joinEquals_L118 w k) (pu_I i) s (pu_I c)) else (if ixb (pu_I i) 250 = true then (if (s 7 (nn (pu_I i))) = 0 then (fX5_joinEquals_J153 (fX5_joinEquals_L118 w k) (pu_I i) s 0 (pu_I c)) else (fX5_joinEquals_J148 (fX5_joinEquals_L118 w k) (pu_I i) s (pu_I c))) else none)) else none)) = _
        unfold fX5_joinEquals_J148 fX5_joinEquals_J153 fX5_joinEquals_J176
        rw [hw, if_neg (by rw [pu_le (by omega) hi31]; omega), if_pos hii, pu_nn hi31, pu_su i, r6]
        simp only [lt9, if_pos hii]
      by_cases h0 : g 6 i < 0
      · have h1 : ¬ 0 ≤ g 6 i := fun c => Int32.not_lt.mpr c h0
        by_cases h7 : s 7 i = 0
        · refine ⟨(pu_I c + 0, upw s 7 i 0), ?_, hend _ _ ⟨c, Int32.add_zero _, by omega⟩ (by rw [if_pos h0])⟩
          show fX5_joinEquals_L118 w (k + 1) (pu_I c) (pu_I i) s = _
          rw [hform, if_neg h1, if_pos h7, if_pos h0]
        · refine ⟨(pu_I c + 1, upw s 7 i 0), ?_, hend _ _ ⟨c + 1, pu_su c, by omega⟩ (by rw [if_pos h0])⟩
          show fX5_joinEquals_L118 w (k + 1) (pu_I c) (pu_I i) s = _
          rw [hform, if_neg h1, if_neg h7, if_pos h0]
      · have h1 : 0 ≤ g 6 i := Int32.not_lt.mp h0
        refine ⟨(pu_I c + 1, upw s 7 i 1), ?_, hend _ _ ⟨c + 1, pu_su c, by omega⟩ (by rw [if_neg h0])⟩
        show fX5_joinEquals_L118 w (k + 1) (pu_I c) (pu_I i) s = _
        rw [hform, if_pos h1, if_neg h0])
    (fun k s hI => ⟨s, by
      show (if (w 0 1) ≤ pu_I L then some (s.1, s.2) else _) = _
      rw [hw, if_pos (Int32.le_refl _)], hI⟩) L 0 NF (0, g) (by omega) (by have := pv_NF; omega) ⟨⟨0, rfl, Nat.le_refl _⟩, fun _ _ => rfl, fun v hv => absurd hv (Nat.not_lt_zero _)⟩
  obtain ⟨⟨c, hx, hc⟩, h3, h4⟩ := h2
  have hx : x = pu_I c := hx
  subst hx
  exact ⟨c, g', h1, by omega, h3, h4⟩
