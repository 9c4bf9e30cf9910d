/-! pure side, the maker 2: the pieces -/
def pt_1 (P w : ST) (a j : Nat) : Int32 := if P 9 j = 35 then pu_I (pt_c P a j + 1) else if P 9 j = 33 then pu_I (pt_c P a j + 1) else if P 9 j = 24 then -1 else w 13 (nn (P 10 j))
def pt_2 (P w : ST) (a j : Nat) : Int32 := if P 9 j = 33 then w 13 (nn (P 10 j)) else if P 9 j = 34 then pu_I (pt_c P a j + 1) else -1
def pt_to (P : ST) (j : Nat) : Nat := if P 9 j = 35 then j else j + 1
theorem pv_addPiece {w : ST} {c : Nat} (h5 : w 0 5 = pu_I c) (hc : c < 640) (x y z u : Int32) :
    ∃ w', fX4_addPiece w x y z u = some w' ∧ (∀ r i, w' r i = if r = 0 ∧ i = 5 then pu_I (c + 1) else if r = 7 ∧ i = c then x else if r = 8 ∧ i = c then y else if r = 9 ∧ i = c then z else if r = 10 ∧ i = c then u else w r i) := by
  have hcn : nn (pu_I c) = c := pu_nn (by omega)
  have hix : ixb (pu_I c) 640 = true := (pu_ix (by omega)).mpr hc
  have g1 : ∀ (q : ST), q 0 5 = pu_I c → ∀ (r : Nat) (v : Int32), r ≠ 0 → upw q r c v 0 5 = pu_I c := fun q hq r v hr => by rw [pv_upw_n (fun e => hr e.symm), hq]
  have h1 := g1 w h5 7 x (by decide)
  have h2 := g1 _ h1 8 y (by decide)
  have h3 := g1 _ h2 9 z (by decide)
  have h4 := g1 _ h3 10 u (by decide)
  refine ⟨upw (upw (upw (upw (upw w 7 c x) 8 c y) 9 c z) 10 c u) 0 5 (pu_I (c + 1)), ?_, fun r i => ?_⟩
  · unfold fX4_addPiece
    rw [h5, if_neg (fun h => by have := (pu_le (a := 640) (b := c) (by decide) (by omega)).mp h; omega), if_pos hix, hcn]
    simp only [lt9]
    rw [h1, if_pos hix, hcn, h2, if_pos hix, hcn, h3, if_pos hix, hcn, h4, pu_su]
    rfl
  · rw [pv_upw]
    by_cases e0 : r = 0 ∧ i = 5
    · rw [if_pos e0, if_pos e0]
    rw [if_neg e0, if_neg e0, pv_upw]
    by_cases e1 : r = 10 ∧ i = c
    · obtain ⟨rfl, rfl⟩ := e1
      rw [if_pos ⟨rfl, rfl⟩, if_neg fun h => (by cases h.1), if_neg fun h => (by cases h.1), if_neg fun h => (by cases h.1), if_pos ⟨rfl, rfl⟩]
    rw [if_neg e1, pv_upw]
    by_cases e2 : r = 9 ∧ i = c
    · obtain ⟨rfl, rfl⟩ := e2
      rw [if_pos ⟨rfl, rfl⟩, if_neg fun h => (by cases h.1), if_neg fun h => (by cases h.1), if_pos ⟨rfl, rfl⟩]
    rw [if_neg e2, pv_upw]
    by_cases e3 : r = 8 ∧ i = c
    · obtain ⟨rfl, rfl⟩ := e3
      rw [if_pos ⟨rfl, rfl⟩, if_neg fun h => (by cases h.1), if_pos ⟨rfl, rfl⟩]
    rw [if_neg e3, pv_upw]
    by_cases e4 : r = 7 ∧ i = c
    · rw [if_pos e4, if_pos e4]
    · rw [if_neg e4, if_neg e4, if_neg e3, if_neg e2, if_neg e1]
section CV
variable {P : ST} {f a0 a1 : Nat}
/-- the tables of the pieces -/
def pt_tab (P : ST) (a0 i : Nat) (w : ST) : Prop :=
  ∀ j, a0 ≤ j → j < i → pt_cut P j → w 7 (pt_c P a0 j) = pu_I (pt_fr P a0 j) ∧ w 8 (pt_c P a0 j) = pu_I (pt_to P j) ∧ w 9 (pt_c P a0 j) = pt_1 P w a0 j ∧ w 10 (pt_c P a0 j) = pt_2 P w a0 j
theorem pv_cutPieces {w : ST} (hf : f < 6) (h6 : P 6 f = pu_I a0) (h7 : P 7 f = pu_I a1) (ha : a0 ≤ a1) (h3 : a1 ≤ 3200) (hla : ∀ i, a0 ≤ i → i < a1 → P 9 i = 35 ∨ P 9 i = 22 ∨ P 9 i = 33 ∨ P 9 i = 34 → ixb (P 10 i) 640 = true) (hld : ∀ i j, a0 ≤ i → i < a1 → a0 ≤ j → j < a1 → P 9 i = 35 → P 9 j = 35 → P 10 i = P 10 j → i = j) (hcc : pt_c P a0 a1 ≤ 640) :
    ∃ w', fX4_cutPieces w P (pu_I f) = some w' ∧ (∀ r, r ≠ 0 → r ≠ 7 → r ≠ 8 → r ≠ 9 → r ≠ 10 → r ≠ 13 → w' r = w r) ∧ w' 0 5 = pu_I (pt_c P a0 a1) ∧ (∀ i, a0 ≤ i → i < a1 → P 9 i = 35 → w' 13 (nn (P 10 i)) = pu_I (pt_c P a0 (i + 1))) ∧ pt_tab P a0 a1 w' := by
  have hfx : ixb (pu_I f) 6 = true := (pu_ix (by omega)).mpr hf
  have hfn : nn (pu_I f) = f := pu_nn (by omega)
  obtain ⟨w1, b1, b2, b3⟩ := pv_findLabels (w := w) hf h6 h7 ha h3 (fun i i1 i2 i3 => hla i i1 i2 (Or.inl i3)) hld
  obtain ⟨t, e1, t1, t2, t3⟩ := pv_for (G := fun k i (s : Int32 × ST) => fX4_cutPieces_L26 P (pu_I f) k s.1 i s.2) (hi := a1)
    (Inv := fun i s => s.1 = pu_I (pt_fr P a0 i) ∧ (∀ r, r ≠ 0 → r ≠ 7 → r ≠ 8 → r ≠ 9 → r ≠ 10 → s.2 r = w1 r) ∧ s.2 0 5 = pu_I (pt_c P a0 i) ∧ pt_tab P a0 i s.2 ∧ a0 ≤ i)
    (Q := fun w' => (∀ r, r ≠ 0 → r ≠ 7 → r ≠ 8 → r ≠ 9 → r ≠ 10 → w' r = w1 r) ∧ w' 0 5 = pu_I (pt_c P a0 a1) ∧ pt_tab P a0 a1 w')
    (by
      rintro k i ⟨v, w2⟩ hi ⟨s1, s2, s3, s4, s5⟩
      have s1 : v = pu_I (pt_fr P a0 i) := s1
      subst s1
      have s2 : ∀ r, r ≠ 0 → r ≠ 7 → r ≠ 8 → r ≠ 9 → r ≠ 10 → w2 r = w1 r := s2
      have s3 : w2 0 5 = pu_I (pt_c P a0 i) := s3
      have s4 : pt_tab P a0 i w2 := s4
      have hix : ixb (pu_I i) 3200 = true := (pu_ix (by omega)).mpr (by omega)
      have hin : nn (pu_I i) = i := pu_nn (by omega)
      -- a cut: one more piece
      have hcut : pt_cut P i → ∃ w', fX4_addPiece w2 (pu_I (pt_fr P a0 i)) (pu_I (pt_to P i)) (pt_1 P w2 a0 i) (pt_2 P w2 a0 i) = some w' ∧ (∀ r, r ≠ 0 → r ≠ 7 → r ≠ 8 → r ≠ 9 → r ≠ 10 → w' r = w1 r) ∧ w' 0 5 = pu_I (pt_c P a0 (i + 1)) ∧ pt_tab P a0 (i + 1) w' := by
        intro hc
        have hlt : pt_c P a0 i < pt_c P a0 a1 := pt_c_lt s5 hi hc
        obtain ⟨w', q1, q2⟩ := pv_addPiece s3 (by omega) (pu_I (pt_fr P a0 i)) (pu_I (pt_to P i)) (pt_1 P w2 a0 i) (pt_2 P w2 a0 i)
        have q13 : w' 13 = w2 13 := funext fun z => by
          rw [q2, if_neg fun h => (by cases h.1), if_neg fun h => (by cases h.1), if_neg fun h => (by cases h.1), if_neg fun h => (by cases h.1), if_neg fun h => (by cases h.1)]
        have h1e : ∀ j, pt_1 P w' a0 j = pt_1 P w2 a0 j := fun j => by unfold pt_1; rw [q13]
        have h2e : ∀ j, pt_2 P w' a0 j = pt_2 P w2 a0 j := fun j => by unfold pt_2; rw [q13]
        refine ⟨w', q1, fun r r0 r7 r8 r9 r10 => ?_, ?_, fun j j1 j2 j3 => ?_⟩
        · rw [← s2 r r0 r7 r8 r9 r10]
          funext z
          rw [q2, if_neg fun h => r0 h.1, if_neg fun h => r7 h.1, if_neg fun h => r8 h.1, if_neg fun h => r9 h.1, if_neg fun h => r10 h.1]
        · rw [q2, if_pos ⟨rfl, rfl⟩, pt_c_s s5, if_pos hc]
        · rw [h1e, h2e]
          by_cases e : j = i
          · subst e
            refine ⟨?_, ?_, ?_, ?_⟩
            · rw [q2, if_neg fun h => (by cases h.1), if_pos ⟨rfl, rfl⟩]
            · rw [q2, if_neg fun h => (by cases h.1), if_neg fun h => (by cases h.1), if_pos ⟨rfl, rfl⟩]
            · rw [q2, if_neg fun h => (by cases h.1), if_neg fun h => (by cases h.1), if_neg fun h => (by cases h.1), if_pos ⟨rfl, rfl⟩]
            · rw [q2, if_neg fun h => (by cases h.1), if_neg fun h => (by cases h.1), if_neg fun h => (by cases h.1), if_neg fun h => (by cases h.1), if_pos ⟨rfl, rfl⟩]
          · have hne : pt_c P a0 j ≠ pt_c P a0 i := by have := pt_c_lt j1 (show j < i by omega) j3; omega
            have h9 := s4 j j1 (by omega) j3
            refine ⟨?_, ?_, ?_, ?_⟩
            · rw [q2, if_neg fun h => (by cases h.1), if_neg fun h => hne h.2, if_neg fun h => (by cases h.1), if_neg fun h => (by cases h.1), if_neg fun h => (by cases h.1)]; exact h9.1
            · rw [q2, if_neg fun h => (by cases h.1), if_neg fun h => (by cases h.1), if_neg fun h => hne h.2, if_neg fun h => (by cases h.1), if_neg fun h => (by cases h.1)]; exact h9.2.1
            · rw [q2, if_neg fun h => (by cases h.1), if_neg fun h => (by cases h.1), if_neg fun h => (by cases h.1), if_neg fun h => hne h.2, if_neg fun h => (by cases h.1)]; exact h9.2.2.1
            · rw [q2, if_neg fun h => (by cases h.1), if_neg fun h => (by cases h.1), if_neg fun h => (by cases h.1), if_neg fun h => (by cases h.1), if_neg fun h => hne h.2]; exact h9.2.2.2
      have hstart : ∀ X : Option ST, (if ixb (pu_I f) 6 = true then (if (P 7 (nn (pu_I f))) ≤ pu_I i then some w2 else (if ixb (pu_I i) 3200 = true then X else none)) else none) = X := by
        intro X
        rw [if_pos hfx, hfn, h7, if_neg (by rw [pu_le (by omega) (by omega)]; omega), if_pos hix]
      have hform : fX4_cutPieces_L26 P (pu_I f) (k + 1) (pu_I (pt_fr P a0 i)) (pu_I i) w2 = (if pt_cut P i then ((fX4_addPiece w2 (pu_I (pt_fr P a0 i)) (pu_I (pt_to P i)) (pt_1 P w2 a0 i) (pt_2 P w2 a0 i)).bind fun (o : ST) => fX4_cutPieces_L26 P (pu_I f) k (pu_I (pt_fr P a0 (i + 1))) (pu_I (i + 1)) o) else fX4_cutPieces_L26 P (pu_I f) k (pu_I (pt_fr P a0 (i + 1))) (pu_I (i + 1)) w2) := by
        refine (hstart _).trans ?_
        unfold fX4_cutPieces_J213
        rw [hin, s3, pu_su, pu_su]
        by_cases h35 : P 9 i = 35
        · rw [if_pos h35, if_pos (Or.inr h35), pt_fr_s s5, if_pos h35]
          unfold pt_to pt_1 pt_2
          rw [if_pos h35, if_pos h35, if_neg (by rw [h35]; decide), if_neg (by rw [h35]; decide)]
        · rw [if_neg h35]
          by_cases h22 : P 9 i = 22
          · have hl : pt_leap P i := Or.inl h22
            rw [if_pos h22, if_pos hix, if_pos (hla i s5 hi (Or.inr (Or.inl h22))), if_pos (Or.inl hl), pt_fr_s s5, if_neg h35, if_pos hl]
            unfold pt_to pt_1 pt_2
            rw [if_neg h35, if_neg h35, if_neg (by rw [h22]; decide), if_neg (by rw [h22]; decide), if_neg (by rw [h22]; decide), if_neg (by rw [h22]; decide)]
          · rw [if_neg h22]
            by_cases h33 : P 9 i = 33
            · have hl : pt_leap P i := Or.inr (Or.inl h33)
              rw [if_pos h33, if_pos hix, if_pos (hla i s5 hi (Or.inr (Or.inr (Or.inl h33)))), if_pos (Or.inl hl), pt_fr_s s5, if_neg h35, if_pos hl]
              unfold pt_to pt_1 pt_2
              rw [if_neg h35, if_neg h35, if_pos h33, if_pos h33]
            · rw [if_neg h33]
              by_cases h34 : P 9 i = 34
              · have hl : pt_leap P i := Or.inr (Or.inr (Or.inl h34))
                rw [if_pos h34, if_pos hix, if_pos (hla i s5 hi (Or.inr (Or.inr (Or.inr h34)))), if_pos (Or.inl hl), pt_fr_s s5, if_neg h35, if_pos hl]
                unfold pt_to pt_1 pt_2
                rw [if_neg h35, if_neg h35, if_neg h33, if_neg (by rw [h34]; decide), if_neg h33, if_pos h34]
              · rw [if_neg h34]
                by_cases h24 : P 9 i = 24
                · have hl : pt_leap P i := Or.inr (Or.inr (Or.inr h24))
                  rw [if_pos h24, if_pos (Or.inl hl), pt_fr_s s5, if_neg h35, if_pos hl]
                  unfold pt_to pt_1 pt_2
                  rw [if_neg h35, if_neg h35, if_neg h33, if_pos h24, if_neg h33, if_neg h34]
                · have hl : ¬ pt_leap P i := by
                    rintro (h | h | h | h)
                    · exact h22 h
                    · exact h33 h
                    · exact h34 h
                    · exact h24 h
                  rw [if_neg h24, if_neg fun h => h.elim hl h35, pt_fr_s s5, if_neg h35, if_neg hl]
      by_cases hc : pt_cut P i
      · obtain ⟨w', q1, q2, q3, q4⟩ := hcut hc
        refine ⟨(pu_I (pt_fr P a0 (i + 1)), w'), ?_, rfl, q2, q3, q4, by omega⟩
        show fX4_cutPieces_L26 P (pu_I f) (k + 1) (pu_I (pt_fr P a0 i)) (pu_I i) w2 = _
        rw [hform, if_pos hc, q1, Option.bind_some]
      · refine ⟨(pu_I (pt_fr P a0 (i + 1)), w2), ?_, rfl, s2, ?_, fun j j1 j2 j3 => ?_, by omega⟩
        · show fX4_cutPieces_L26 P (pu_I f) (k + 1) (pu_I (pt_fr P a0 i)) (pu_I i) w2 = _
          rw [hform, if_neg hc]
        · show w2 0 5 = _
          rw [s3, pt_c_s s5, if_neg hc, Nat.add_zero]
        · have : j ≠ i := fun e => hc (by rw [← e]; exact j3)
          exact s4 j j1 (by omega) j3)
    (by
      rintro k ⟨v, w2⟩ ⟨s1, s2, s3, s4, s5⟩
      refine ⟨w2, ?_, s2, s3, s4⟩
      show (if ixb (pu_I f) 6 = true then (if (P 7 (nn (pu_I f))) ≤ pu_I a1 then some w2 else _) else none) = _
      rw [if_pos hfx, hfn, h7, if_pos (Int32.le_refl _)]) (a1 - a0) a0 NF (pu_I a0, upw w1 0 5 0) (by omega) (by have := pv_NF; omega) ⟨by rw [pt_fr_a P a0 a0 (Nat.le_refl _)], fun r r0 _ _ _ _ => pv_upw_n r0, by
        show upw w1 0 5 0 0 5 = _
        rw [pv_upw, if_pos ⟨rfl, rfl⟩, pt_c_a P a0 a0 (Nat.le_refl _)]
        rfl, fun j j1 j2 => absurd j1 (by omega), Nat.le_refl _⟩
  have e1 : fX4_cutPieces_L26 P (pu_I f) NF (pu_I a0) (pu_I a0) (upw w1 0 5 0) = some t := e1
  refine ⟨t, ?_, fun r r0 r7 r8 r9 r10 r13 => by rw [t1 r r0 r7 r8 r9 r10, b2 r r13], t2, fun i i1 i2 i3 => ?_, t3⟩
  · unfold fX4_cutPieces
    rw [b1, Option.bind_some]
    simp only [lt9]
    rw [if_pos hfx, if_pos hfx, hfn, h6, e1]
    rfl
  · rw [t1 13 (by decide) (by decide) (by decide) (by decide) (by decide)]
    exact b3 i i1 i2 i3
end CV
