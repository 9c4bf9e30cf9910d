/-! pure side, the maker 25: pieces and places -/
section PC
variable {P w : ST} {a0 a1 : Nat}
/-- a piece begins at a place -/
def pt_st (P : ST) (a0 a1 q s : Nat) : Prop := ∃ j, a0 ≤ j ∧ j < a1 ∧ pt_cut P j ∧ pt_c P a0 j = q ∧ pt_fr P a0 j = s
/-- the label of a leap -/
def pt_lab (P : ST) (a0 a1 i s : Nat) : Prop := P 9 s = 35 ∧ a0 ≤ s ∧ s < a1 ∧ P 10 s = P 10 i
theorem pt_least {j : Nat} : ∀ z, j < z → z < a1 → pt_cut P z → ∃ y, j < y ∧ y < a1 ∧ pt_cut P y ∧ ∀ x, j < x → x < y → ¬ pt_cut P x := by
  intro z
  induction z using Nat.strongRecOn with
  | _ z ih =>
    intro h1 h2 h3
    by_cases h : ∃ x, j < x ∧ x < z ∧ pt_cut P x
    · obtain ⟨x, x1, x2, x3⟩ := h
      exact ih x x2 x1 (by omega) x3
    · exact ⟨z, h1, h2, h3, fun x x1 x2 x3 => h ⟨x, x1, x2, x3⟩⟩
theorem pt_quiet {j : Nat} (ha : a0 ≤ j + 1) : ∀ i, j < i → (∀ x, j < x → x < i → ¬ pt_cut P x) → pt_c P a0 i = pt_c P a0 (j + 1) ∧ pt_fr P a0 i = pt_fr P a0 (j + 1) := by
  intro i
  induction i with
  | zero => intro h; omega
  | succ i ih =>
    intro h hn
    by_cases e : i = j
    · rw [e]; exact ⟨rfl, rfl⟩
    · obtain ⟨h1, h2⟩ := ih (by omega) fun x x1 x2 => hn x x1 (by omega)
      have hc := hn i (by omega) (Nat.lt_succ_self i)
      rw [pt_c_s (by omega), if_neg hc, Nat.add_zero, pt_fr_s (by omega), if_neg fun h => hc (Or.inr h), if_neg fun h => hc (Or.inl h)]
      exact ⟨h1, h2⟩
theorem pt_next {j : Nat} (ha : a0 ≤ j) (hc : pt_cut P j) (hl : ∃ z, j < z ∧ z < a1 ∧ pt_cut P z) : pt_st P a0 a1 (pt_c P a0 j + 1) (if P 9 j = 35 then j else j + 1) := by
  obtain ⟨z, z1, z2, z3⟩ := hl
  obtain ⟨y, y1, y2, y3, y4⟩ := pt_least z z1 z2 z3
  obtain ⟨h1, h2⟩ := pt_quiet (P := P) (show a0 ≤ j + 1 by omega) y y1 y4
  refine ⟨y, by omega, y2, y3, ?_, ?_⟩
  · rw [h1, pt_c_s ha, if_pos hc]
  · rw [h2, pt_fr_s ha]
    by_cases h35 : P 9 j = 35
    · rw [if_pos h35, if_pos h35]
    · rw [if_neg h35, if_neg h35, if_pos (hc.resolve_right h35)]
theorem pt_first (hl : ∃ z, a0 ≤ z ∧ z < a1 ∧ pt_cut P z) : pt_st P a0 a1 0 a0 := by
  obtain ⟨z, z1, z2, z3⟩ := hl
  have key : ∀ z, a0 ≤ z → z < a1 → pt_cut P z → ∃ y, a0 ≤ y ∧ y < a1 ∧ pt_cut P y ∧ ∀ x, a0 ≤ x → x < y → ¬ pt_cut P x := by
    intro z
    induction z using Nat.strongRecOn with
    | _ z ih =>
      intro h1 h2 h3
      by_cases h : ∃ x, a0 ≤ x ∧ x < z ∧ pt_cut P x
      · obtain ⟨x, x1, x2, x3⟩ := h
        exact ih x x2 x1 (by omega) x3
      · exact ⟨z, h1, h2, h3, fun x x1 x2 x3 => h ⟨x, x1, x2, x3⟩⟩
  obtain ⟨y, y1, y2, y3, y4⟩ := key z z1 z2 z3
  have hq : ∀ i, a0 ≤ i → (∀ x, a0 ≤ x → x < i → ¬ pt_cut P x) → pt_c P a0 i = 0 ∧ pt_fr P a0 i = a0 := by
    intro i
    induction i with
    | zero => intro h _; rw [show a0 = 0 by omega]; exact ⟨rfl, rfl⟩
    | succ i ih =>
      intro h hn
      by_cases e : a0 = i + 1
      · rw [pt_c_a P a0 _ (by omega), pt_fr_a P a0 _ (by omega)]; exact ⟨rfl, rfl⟩
      · have hc := hn i (by omega) (Nat.lt_succ_self i)
        rw [pt_c_s (by omega), if_neg hc, pt_fr_s (by omega), if_neg fun h => hc (Or.inr h), if_neg fun h => hc (Or.inl h)]
        exact ih (by omega) fun x x1 x2 => hn x x1 (by omega)
  obtain ⟨h1, h2⟩ := hq y y1 y4
  exact ⟨y, y1, y2, y3, h1, h2⟩
/-- each number of a piece has its cut -/
theorem pt_cut_of {q : Nat} : ∀ i, q < pt_c P a0 i → ∃ j, a0 ≤ j ∧ j < i ∧ pt_cut P j ∧ pt_c P a0 j = q := by
  intro i
  induction i with
  | zero => intro h; exact absurd h (Nat.not_lt_zero q)
  | succ i ih =>
    intro h
    by_cases hi : i < a0
    · rw [pt_c_a P a0 _ (by omega)] at h; omega
    · by_cases hq : q < pt_c P a0 i
      · obtain ⟨j, j1, j2, j3, j4⟩ := ih hq
        exact ⟨j, j1, by omega, j3, j4⟩
      · rw [pt_c_s (by omega)] at h
        by_cases hc : pt_cut P i
        · rw [if_pos hc] at h
          exact ⟨i, by omega, Nat.lt_succ_self i, hc, by omega⟩
        · rw [if_neg hc] at h; omega
theorem pt_cut_un {j j' : Nat} (ha : a0 ≤ j) (ha' : a0 ≤ j') (hc : pt_cut P j) (hc' : pt_cut P j') (h : pt_c P a0 j = pt_c P a0 j') : j = j' := by
  rcases Nat.lt_trichotomy j j' with h1 | h1 | h1
  · have := pt_c_lt ha h1 hc; omega
  · exact h1
  · have := pt_c_lt ha' h1 hc'; omega
theorem pt_st_lt {q s : Nat} (h : pt_st P a0 a1 q s) : q < pt_c P a0 a1 := by
  obtain ⟨j, j1, j2, j3, j4, _⟩ := h
  rw [← j4]
  exact pt_c_lt j1 j2 j3
/-- where a piece leads -/
def pt_ps (P : ST) (a0 a1 : Nat) (F G : Nat → Int32) (j : Nat) : Prop :=
  (P 9 j = 35 → ∃ q, q = pt_c P a0 j + 1 ∧ pt_st P a0 a1 q j ∧ F (pt_c P a0 j) = pu_I q ∧ G (pt_c P a0 j) < 0) ∧
  (P 9 j = 22 → ∃ q s, q = pt_c P a0 s + 1 ∧ pt_lab P a0 a1 j s ∧ pt_st P a0 a1 q s ∧ F (pt_c P a0 j) = pu_I q ∧ G (pt_c P a0 j) < 0) ∧
  (P 9 j = 33 → ∃ q q' s, (q = pt_c P a0 j + 1 ∧ q' = pt_c P a0 s + 1) ∧ pt_lab P a0 a1 j s ∧ pt_st P a0 a1 q (j + 1) ∧ pt_st P a0 a1 q' s ∧ F (pt_c P a0 j) = pu_I q ∧ G (pt_c P a0 j) = pu_I q') ∧
  (P 9 j = 34 → ∃ q q' s, (q = pt_c P a0 s + 1 ∧ q' = pt_c P a0 j + 1) ∧ pt_lab P a0 a1 j s ∧ pt_st P a0 a1 q s ∧ pt_st P a0 a1 q' (j + 1) ∧ F (pt_c P a0 j) = pu_I q ∧ G (pt_c P a0 j) = pu_I q') ∧
  (P 9 j = 24 → F (pt_c P a0 j) < 0 ∧ G (pt_c P a0 j) < 0)
theorem pt_pcs (hlast : a0 < a1 ∧ P 9 (a1 - 1) = 24) (hL : ∀ i, a0 ≤ i → i < a1 → (P 9 i = 22 ∨ P 9 i = 33 ∨ P 9 i = 34) → ∃ s, pt_lab P a0 a1 i s) (h13 : ∀ i, a0 ≤ i → i < a1 → P 9 i = 35 → w 13 (nn (P 10 i)) = pu_I (pt_c P a0 (i + 1))) (ht : pt_tab P a0 a1 w) {j : Nat} (ha : a0 ≤ j) (hj : j < a1) (hc : pt_cut P j) : pt_ps P a0 a1 (w 9) (w 10) j := by
  obtain ⟨_, _, t9, t10⟩ := ht j ha hj hc
  have hcl : pt_cut P (a1 - 1) := Or.inl (Or.inr (Or.inr (Or.inr hlast.2)))
  have hnx : ∀ i, a0 ≤ i → i < a1 → pt_cut P i → P 9 i ≠ 24 → pt_st P a0 a1 (pt_c P a0 i + 1) (if P 9 i = 35 then i else i + 1) := fun i i1 i2 i3 i4 =>
    pt_next i1 i3 ⟨a1 - 1, by
      have : i ≠ a1 - 1 := fun e => i4 (by rw [e]; exact hlast.2)
      omega, by omega, hcl⟩
  have hlab : ∀ i, a0 ≤ i → i < a1 → (P 9 i = 22 ∨ P 9 i = 33 ∨ P 9 i = 34) → ∃ s, pt_lab P a0 a1 i s ∧ pt_st P a0 a1 (pt_c P a0 s + 1) s ∧ w 13 (nn (P 10 i)) = pu_I (pt_c P a0 s + 1) := by
    intro i i1 i2 i3
    obtain ⟨s, s1, s2, s3, s4⟩ := hL i i1 i2 i3
    have h9 := hnx s s2 s3 (Or.inr s1) (by rw [s1]; decide)
    rw [if_pos s1] at h9
    refine ⟨s, ⟨s1, s2, s3, s4⟩, h9, ?_⟩
    rw [← s4, h13 s s2 s3 s1, pt_c_s s2, if_pos (Or.inr s1)]
  unfold pt_1 at t9
  unfold pt_2 at t10
  refine ⟨fun h => ?_, fun h => ?_, fun h => ?_, fun h => ?_, fun h => ?_⟩
  · have h9 := hnx j ha hj hc (by rw [h]; decide)
    rw [if_pos h] at h9 t9
    rw [if_neg (show ¬ P 9 j = 33 by rw [h]; decide), if_neg (show ¬ P 9 j = 34 by rw [h]; decide)] at t10
    exact ⟨_, rfl, h9, t9, by rw [t10]; decide⟩
  · obtain ⟨s, s1, s2, s3⟩ := hlab j ha hj (Or.inl h)
    rw [if_neg (show ¬ P 9 j = 35 by rw [h]; decide), if_neg (show ¬ P 9 j = 33 by rw [h]; decide), if_neg (show ¬ P 9 j = 24 by rw [h]; decide)] at t9
    rw [if_neg (show ¬ P 9 j = 33 by rw [h]; decide), if_neg (show ¬ P 9 j = 34 by rw [h]; decide)] at t10
    exact ⟨_, s, rfl, s1, s2, by rw [t9, s3], by rw [t10]; decide⟩
  · obtain ⟨s, s1, s2, s3⟩ := hlab j ha hj (Or.inr (Or.inl h))
    have h9 := hnx j ha hj hc (by rw [h]; decide)
    rw [if_neg (show ¬ P 9 j = 35 by rw [h]; decide)] at h9
    rw [if_neg (show ¬ P 9 j = 35 by rw [h]; decide), if_pos h] at t9
    rw [if_pos h] at t10
    exact ⟨_, _, s, ⟨rfl, rfl⟩, s1, h9, s2, t9, by rw [t10, s3]⟩
  · obtain ⟨s, s1, s2, s3⟩ := hlab j ha hj (Or.inr (Or.inr h))
    have h9 := hnx j ha hj hc (by rw [h]; decide)
    rw [if_neg (show ¬ P 9 j = 35 by rw [h]; decide)] at h9
    rw [if_neg (show ¬ P 9 j = 35 by rw [h]; decide), if_neg (show ¬ P 9 j = 33 by rw [h]; decide), if_neg (show ¬ P 9 j = 24 by rw [h]; decide)] at t9
    rw [if_neg (show ¬ P 9 j = 33 by rw [h]; decide), if_pos h] at t10
    exact ⟨_, _, s, ⟨rfl, rfl⟩, s1, s2, h9, by rw [t9, s3], t10⟩
  · rw [if_neg (show ¬ P 9 j = 35 by rw [h]; decide), if_neg (show ¬ P 9 j = 33 by rw [h]; decide), if_pos h] at t9
    rw [if_neg (show ¬ P 9 j = 33 by rw [h]; decide), if_neg (show ¬ P 9 j = 34 by rw [h]; decide)] at t10
    exact ⟨by rw [t9]; decide, by rw [t10]; decide⟩
theorem pt_fgs (hps : ∀ j, a0 ≤ j → j < a1 → pt_cut P j → pt_ps P a0 a1 (w 9) (w 10) j) : pt_fg (pt_c P a0 a1) (w 9) ∧ pt_fg (pt_c P a0 a1) (w 10) := by
  have key : ∀ p, p < pt_c P a0 a1 → (w 9 p < 0 ∨ ∃ q, q < pt_c P a0 a1 ∧ w 9 p = pu_I q) ∧ (w 10 p < 0 ∨ ∃ q, q < pt_c P a0 a1 ∧ w 10 p = pu_I q) := by
    intro p hp
    obtain ⟨j, j1, j2, j3, rfl⟩ := pt_cut_of a1 hp
    obtain ⟨h1, h2, h3, h4, h5⟩ := hps j j1 j2 j3
    rcases j3 with (h | h | h | h) | h
    · obtain ⟨q, s, _, _, q2, q3, q4⟩ := h2 h
      exact ⟨Or.inr ⟨q, pt_st_lt q2, q3⟩, Or.inl q4⟩
    · obtain ⟨q, q', s, _, _, q2, q3, q4, q5⟩ := h3 h
      exact ⟨Or.inr ⟨q, pt_st_lt q2, q4⟩, Or.inr ⟨q', pt_st_lt q3, q5⟩⟩
    · obtain ⟨q, q', s, _, _, q2, q3, q4, q5⟩ := h4 h
      exact ⟨Or.inr ⟨q, pt_st_lt q2, q4⟩, Or.inr ⟨q', pt_st_lt q3, q5⟩⟩
    · exact ⟨Or.inl (h5 h).1, Or.inl (h5 h).2⟩
    · obtain ⟨q, _, q2, q3, q4⟩ := h1 h
      exact ⟨Or.inr ⟨q, pt_st_lt q2, q3⟩, Or.inl q4⟩
  exact ⟨fun p hp => (key p hp).1, fun p hp => (key p hp).2⟩
end PC
