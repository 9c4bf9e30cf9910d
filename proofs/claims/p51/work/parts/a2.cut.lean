/-! pure side, the maker 1: the text of a function in pieces -/
abbrev pt_leap (P : ST) (i : Nat) : Prop := P 9 i = 22 ∨ P 9 i = 33 ∨ P 9 i = 34 ∨ P 9 i = 24
abbrev pt_cut (P : ST) (i : Nat) : Prop := pt_leap P i ∨ P 9 i = 35
/-- how many pieces end ahead of a place -/
def pt_c (P : ST) (a : Nat) : Nat → Nat
  | 0 => 0
  | i + 1 => if i < a then 0 else pt_c P a i + (if pt_cut P i then 1 else 0)
/-- where the piece that is open at a place begins -/
def pt_fr (P : ST) (a : Nat) : Nat → Nat
  | 0 => a
  | i + 1 => if i < a then a else if P 9 i = 35 then i else if pt_leap P i then i + 1 else pt_fr P a i
theorem pt_c_a (P : ST) (a : Nat) : ∀ i, i ≤ a → pt_c P a i = 0 := by
  intro i
  cases i with
  | zero => intro _; rfl
  | succ i => intro h; exact if_pos (by omega)
theorem pt_c_s {P : ST} {a i : Nat} (h : a ≤ i) : pt_c P a (i + 1) = pt_c P a i + (if pt_cut P i then 1 else 0) := if_neg (by omega)
theorem pt_fr_a (P : ST) (a : Nat) : ∀ i, i ≤ a → pt_fr P a i = a := by
  intro i
  cases i with
  | zero => intro _; rfl
  | succ i => intro h; exact if_pos (by omega)
theorem pt_fr_s {P : ST} {a i : Nat} (h : a ≤ i) : pt_fr P a (i + 1) = if P 9 i = 35 then i else if pt_leap P i then i + 1 else pt_fr P a i := if_neg (by omega)
theorem pt_c_le {P : ST} {a : Nat} {i j : Nat} (h : i ≤ j) : pt_c P a i ≤ pt_c P a j := by
  induction j with
  | zero => rw [show i = 0 by omega]; exact Nat.le_refl _
  | succ j ih =>
    by_cases e : i = j + 1
    · rw [e]; exact Nat.le_refl _
    · have h9 := ih (by omega)
      by_cases hj : j < a
      · rw [pt_c_a P a i (by omega)]; exact Nat.zero_le _
      · rw [pt_c_s (by omega)]; omega
theorem pt_c_lt {P : ST} {a : Nat} {i j : Nat} (ha : a ≤ i) (h : i < j) (hc : pt_cut P i) : pt_c P a i < pt_c P a j := by
  have h9 : pt_c P a (i + 1) ≤ pt_c P a j := pt_c_le h
  rw [pt_c_s ha, if_pos hc] at h9
  omega
theorem pt_fr_le {P : ST} {a : Nat} : ∀ i, a ≤ i → a ≤ pt_fr P a i ∧ pt_fr P a i ≤ i := by
  intro i
  induction i with
  | zero => intro h; rw [show a = 0 by omega]; exact ⟨Nat.le_refl _, Nat.le_refl _⟩
  | succ i ih =>
    intro h
    by_cases e : a = i + 1
    · rw [pt_fr_a P a _ (by omega)]; omega
    · have h9 := ih (by omega)
      rw [pt_fr_s (by omega)]
      by_cases h1 : P 9 i = 35
      · rw [if_pos h1]; omega
      · rw [if_neg h1]
        by_cases h2 : pt_leap P i
        · rw [if_pos h2]; omega
        · rw [if_neg h2]; omega
section CU
variable {P : ST} {f a0 a1 : Nat}
theorem pv_findLabels {w : ST} (hf : f < 6) (h6 : P 6 f = pu_I a0) (h7 : P 7 f = pu_I a1) (ha : a0 ≤ a1) (h3 : a1 ≤ 3200) (hla : ∀ i, a0 ≤ i → i < a1 → P 9 i = 35 → ixb (P 10 i) 640 = true) (hld : ∀ i j, a0 ≤ i → i < a1 → a0 ≤ j → j < a1 → P 9 i = 35 → P 9 j = 35 → P 10 i = P 10 j → i = j) :
    ∃ w', fX4_findLabels w P (pu_I f) = some w' ∧ (∀ r, r ≠ 13 → w' r = w r) ∧ (∀ i, a0 ≤ i → i < a1 → P 9 i = 35 → w' 13 (nn (P 10 i)) = pu_I (pt_c P a0 (i + 1))) := by
  have hfx : ixb (pu_I f) 6 = true := (pu_ix (by omega)).mpr hf
  obtain ⟨t, e1, t1, t2⟩ := pv_for (G := fun k i (s : Int32 × ST) => fX4_findLabels_L10 P (pu_I f) k s.1 i s.2) (hi := a1)
    (Inv := fun i s => s.1 = pu_I (pt_c P a0 i) ∧ (∀ r, r ≠ 13 → s.2 r = w r) ∧ (∀ j, a0 ≤ j → j < i → P 9 j = 35 → s.2 13 (nn (P 10 j)) = pu_I (pt_c P a0 (j + 1))) ∧ a0 ≤ i)
    (Q := fun w' => (∀ r, r ≠ 13 → w' r = w r) ∧ (∀ i, a0 ≤ i → i < a1 → P 9 i = 35 → w' 13 (nn (P 10 i)) = pu_I (pt_c P a0 (i + 1))))
    (by
      rintro k i ⟨v, w1⟩ hi ⟨s1, s2, s3, s4⟩
      have s1 : v = pu_I (pt_c P a0 i) := s1
      subst s1
      have s2 : ∀ r, r ≠ 13 → w1 r = w r := s2
      have s3 : ∀ j, a0 ≤ j → j < i → P 9 j = 35 → w1 13 (nn (P 10 j)) = pu_I (pt_c P a0 (j + 1)) := s3
      have hix : ixb (pu_I i) 3200 = true := (pu_ix (by omega)).mpr (by omega)
      have hin : nn (pu_I i) = i := pu_nn (by omega)
      have hfn : nn (pu_I f) = f := pu_nn (by omega)
      have hstart : ∀ X : Option ST, (if ixb (pu_I f) 6 = true then (if (P 7 (nn (pu_I f))) ≤ pu_I i then some w1 else (if ixb (pu_I i) 3200 = true then X else none)) else none) = X := by
        intro X
        rw [if_pos hfx, hfn, h7, if_neg (by rw [pu_le (by omega) (by omega)]; omega), if_pos hix]
      have hform : fX4_findLabels_L10 P (pu_I f) (k + 1) (pu_I (pt_c P a0 i)) (pu_I i) w1 = (if P 9 i = 35 then fX4_findLabels_L10 P (pu_I f) k (pu_I (pt_c P a0 i + 1)) (pu_I (i + 1)) (upw w1 13 (nn (P 10 i)) (pu_I (pt_c P a0 i + 1))) else if pt_leap P i then fX4_findLabels_L10 P (pu_I f) k (pu_I (pt_c P a0 i + 1)) (pu_I (i + 1)) w1 else fX4_findLabels_L10 P (pu_I f) k (pu_I (pt_c P a0 i)) (pu_I (i + 1)) w1) := by
        refine (hstart _).trans ?_
        have h80 : ∀ v, fX4_findLabels_J80 (fX4_findLabels_L10 P (pu_I f) k) P (pu_I i) w1 v = (if P 9 i = 35 then fX4_findLabels_L10 P (pu_I f) k v (pu_I (i + 1)) (upw w1 13 (nn (P 10 i)) v) else fX4_findLabels_L10 P (pu_I f) k v (pu_I (i + 1)) w1) := by
          intro v
          unfold fX4_findLabels_J80 fX4_findLabels_J100
          rw [hin, pu_su]
          by_cases h35 : P 9 i = 35
          · rw [if_pos h35, if_pos h35, if_pos hix, if_pos (hla i s4 hi h35)]
            rfl
          · rw [if_neg h35, if_neg h35]
        have h77 : fX4_findLabels_J77 (fX4_findLabels_L10 P (pu_I f) k) P (pu_I (pt_c P a0 i)) (pu_I i) w1 = (if P 9 i = 35 then fX4_findLabels_L10 P (pu_I f) k (pu_I (pt_c P a0 i + 1)) (pu_I (i + 1)) (upw w1 13 (nn (P 10 i)) (pu_I (pt_c P a0 i + 1))) else fX4_findLabels_L10 P (pu_I f) k (pu_I (pt_c P a0 i + 1)) (pu_I (i + 1)) w1) := by
          unfold fX4_findLabels_J77
          rw [pu_su]
          exact h80 _
        have h58 : fX4_findLabels_J58 (fX4_findLabels_L10 P (pu_I f) k) P (pu_I (pt_c P a0 i)) (pu_I i) w1 = fX4_findLabels_J77 (fX4_findLabels_L10 P (pu_I f) k) P (pu_I (pt_c P a0 i)) (pu_I i) w1 := by
          unfold fX4_findLabels_J58 fX4_findLabels_J63
          rw [if_neg (by decide)]
        rw [hin]
        by_cases hl : pt_leap P i
        · have h35 : ¬ P 9 i = 35 := by
            intro e
            unfold pt_leap at hl
            rw [e] at hl
            exact absurd hl (by decide)
          have hall : (if P 9 i = 22 then (fX4_findLabels_J58 (fX4_findLabels_L10 P (pu_I f) k) P (pu_I (pt_c P a0 i)) (pu_I i) w1) else (if P 9 i = 33 then (fX4_findLabels_J58 (fX4_findLabels_L10 P (pu_I f) k) P (pu_I (pt_c P a0 i)) (pu_I i) w1) else (if P 9 i = 34 then (fX4_findLabels_J58 (fX4_findLabels_L10 P (pu_I f) k) P (pu_I (pt_c P a0 i)) (pu_I i) w1) else (if P 9 i = 24 then (fX4_findLabels_J58 (fX4_findLabels_L10 P (pu_I f) k) P (pu_I (pt_c P a0 i)) (pu_I i) w1) else (fX4_findLabels_J63 (fX4_findLabels_L10 P (pu_I f) k) P (pu_I (pt_c P a0 i)) (pu_I i) w1 0))))) = fX4_findLabels_J58 (fX4_findLabels_L10 P (pu_I f) k) P (pu_I (pt_c P a0 i)) (pu_I i) w1 := by
            by_cases e1 : P 9 i = 22
            · rw [if_pos e1]
            · rw [if_neg e1]
              by_cases e2 : P 9 i = 33
              · rw [if_pos e2]
              · rw [if_neg e2]
                by_cases e3 : P 9 i = 34
                · rw [if_pos e3]
                · rw [if_neg e3]
                  have e4 : P 9 i = 24 := by
                    rcases hl with h | h | h | h
                    · exact absurd h e1
                    · exact absurd h e2
                    · exact absurd h e3
                    · exact h
                  rw [if_pos e4]
          rw [hall, h58, h77, if_neg h35, if_neg h35, if_pos hl]
        · have n1 : ¬ P 9 i = 22 := fun e => hl (Or.inl e)
          have n2 : ¬ P 9 i = 33 := fun e => hl (Or.inr (Or.inl e))
          have n3 : ¬ P 9 i = 34 := fun e => hl (Or.inr (Or.inr (Or.inl e)))
          have n4 : ¬ P 9 i = 24 := fun e => hl (Or.inr (Or.inr (Or.inr e)))
          rw [if_neg n1, if_neg n2, if_neg n3, if_neg n4, if_neg hl]
          unfold fX4_findLabels_J63
          rw [if_pos rfl, hin]
          by_cases h35 : P 9 i = 35
          · rw [if_pos h35, h77, if_pos h35, if_pos h35]
          · rw [if_neg h35, h80, if_neg h35, if_neg h35]
      by_cases h35 : P 9 i = 35
      · refine ⟨(pu_I (pt_c P a0 i + 1), upw w1 13 (nn (P 10 i)) (pu_I (pt_c P a0 i + 1))), ?_, ?_, fun r hr => ?_, fun j j1 j2 j3 => ?_, by omega⟩
        · show fX4_findLabels_L10 P (pu_I f) (k + 1) (pu_I (pt_c P a0 i)) (pu_I i) w1 = _
          rw [hform, if_pos h35]
        · show pu_I _ = pu_I _
          rw [pt_c_s s4, if_pos (Or.inr h35)]
        · show upw w1 13 _ _ r = w r
          rw [pv_upw_n hr, s2 r hr]
        · show upw w1 13 _ _ 13 _ = _
          rw [pv_upw]
          by_cases e : nn (P 10 j) = nn (P 10 i)
          · have hij := hld j i j1 (by omega) s4 hi j3 h35 (pv_nn_inj (pv_ixn (hla j j1 (by omega) j3)).1 (pv_ixn (hla i s4 hi h35)).1 e)
            rw [hij, if_pos ⟨rfl, rfl⟩, pt_c_s s4, if_pos (Or.inr h35)]
          · rw [if_neg fun h => e h.2]
            have : j ≠ i := fun h => e (by rw [h])
            exact s3 j j1 (by omega) j3
      · by_cases hl : pt_leap P i
        · refine ⟨(pu_I (pt_c P a0 i + 1), w1), ?_, ?_, s2, fun j j1 j2 j3 => ?_, by omega⟩
          · show fX4_findLabels_L10 P (pu_I f) (k + 1) (pu_I (pt_c P a0 i)) (pu_I i) w1 = _
            rw [hform, if_neg h35, if_pos hl]
          · show pu_I _ = pu_I _
            rw [pt_c_s s4, if_pos (Or.inl hl)]
          · have : j ≠ i := fun h => h35 (by rw [← h]; exact j3)
            exact s3 j j1 (by omega) j3
        · refine ⟨(pu_I (pt_c P a0 i), w1), ?_, ?_, s2, fun j j1 j2 j3 => ?_, by omega⟩
          · show fX4_findLabels_L10 P (pu_I f) (k + 1) (pu_I (pt_c P a0 i)) (pu_I i) w1 = _
            rw [hform, if_neg h35, if_neg hl]
          · show pu_I _ = pu_I _
            rw [pt_c_s s4, if_neg fun h => h.elim hl h35, Nat.add_zero]
          · have : j ≠ i := fun h => h35 (by rw [← h]; exact j3)
            exact s3 j j1 (by omega) j3)
    (by
      rintro k ⟨v, w1⟩ ⟨s1, s2, s3, s4⟩
      refine ⟨w1, ?_, s2, s3⟩
      show (if ixb (pu_I f) 6 = true then (if (P 7 (nn (pu_I f))) ≤ pu_I a1 then some w1 else _) else none) = _
      rw [if_pos hfx, pu_nn (by omega), h7, if_pos (Int32.le_refl _)]) (a1 - a0) a0 NF (pu_I 0, w) (by omega) (by have := pv_NF; omega) ⟨by rw [pt_c_a P a0 a0 (Nat.le_refl _)], fun r _ => rfl, fun j j1 j2 => absurd j1 (by omega), Nat.le_refl _⟩
  have e1 : fX4_findLabels_L10 P (pu_I f) NF 0 (pu_I a0) w = some t := e1
  refine ⟨t, ?_, t1, t2⟩
  unfold fX4_findLabels
  rw [if_pos hfx, pu_nn (by omega), h6, e1]
  rfl
end CU
