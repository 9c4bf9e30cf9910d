/-! pure side, stores 21: steps that were seen -/
def pv_seen (g : ST) (N B : Nat) (P : Nat → Nat → Prop) : Prop :=
  ∃ sn, g 0 10 = pu_I sn ∧ sn ≤ 250 ∧ ∀ i, i < sn → ∃ s c, s < N ∧ c < B ∧ g 9 i = pu_I s ∧ g 10 i = pu_I c ∧ P s c
theorem pv_seen_mo {g g' : ST} {N B : Nat} {P P' : Nat → Nat → Prop} (h0 : g' 0 10 = g 0 10) (h9 : g' 9 = g 9) (h10 : g' 10 = g 10) (hP : ∀ s c, s < N → c < B → P s c → P' s c) (h : pv_seen g N B P) : pv_seen g' N B P' := by
  obtain ⟨sn, h1, h2, h3⟩ := h
  refine ⟨sn, by rw [h0]; exact h1, h2, fun i hi => ?_⟩
  obtain ⟨s, c, s1, s2, s3, s4, s5⟩ := h3 i hi
  exact ⟨s, c, s1, s2, by rw [h9]; exact s3, by rw [h10]; exact s4, hP s c s1 s2 s5⟩
section JS
variable {n2 : Nat → Nat} {B N : Nat} {g w2 : ST} {l : SL}
theorem pv_joinSeen {P : Nat → Nat → Prop} (hB : B ≤ 60) (hN2 : N ≤ n2 2) (hN3 : N ≤ n2 3) (hN4 : N ≤ n2 4) (hN5 : N ≤ n2 5) (hN : N < 50000) (hsn : pv_seen g N B P) {a b : Nat} (ha : a < N) (hb : b < B) (hgv : ixb (w2 3 a) 250 = true) :
    ∃ g', fX5_joinSeen g l (pu_I b) (pu_I a) n2 w2 = some g' ∧
      ((∃ s c, s < N ∧ c < B ∧ P s c ∧ pv_bt (l 16 b) c = true ∧ w2 2 s = w2 2 a ∧ w2 4 s = w2 4 a ∧ w2 5 s = w2 5 a ∧ g' = upw g 6 (nn (w2 3 a)) (w2 3 s)) ∨
       ((∀ r, r ≠ 0 → r ≠ 9 → r ≠ 10 → g' r = g r) ∧ (∀ i, i ≠ 10 → g' 0 i = g 0 i) ∧ pv_seen g' N B (fun s c => P s c ∨ (s = a ∧ c = b)))) := by
  obtain ⟨sn, hs1, hs2, hs3⟩ := hsn
  have ha31 : a < 2147483648 := by omega
  have i2 : ixb (pu_I a) (n2 2) = true := (pu_ix ha31).mpr (by omega)
  have i3 : ixb (pu_I a) (n2 3) = true := (pu_ix ha31).mpr (by omega)
  have i4 : ixb (pu_I a) (n2 4) = true := (pu_ix ha31).mpr (by omega)
  have i5 : ixb (pu_I a) (n2 5) = true := (pu_ix ha31).mpr (by omega)
  have hrun : ∀ (m i k : Nat), i + m = sn → m < k →
      ∃ t, fX5_joinSeen_L9 g l (pu_I b) (pu_I a) n2 w2 k (pu_I i) = some t ∧ (t = Sum.inr () ∨ ∃ s c, s < N ∧ c < B ∧ P s c ∧ pv_bt (l 16 b) c = true ∧ w2 2 s = w2 2 a ∧ w2 4 s = w2 4 a ∧ w2 5 s = w2 5 a ∧ t = Sum.inl (upw g 6 (nn (w2 3 a)) (w2 3 s))) := by
    intro m
    induction m with
    | zero =>
      intro i k hi hk
      obtain ⟨k', rfl⟩ : ∃ k', k = k' + 1 := ⟨k - 1, by omega⟩
      have hi : i = sn := by omega
      subst hi
      refine ⟨Sum.inr (), ?_, Or.inl rfl⟩
      show (if (g 0 10) ≤ pu_I i then some (Sum.inr ()) else _) = _
      rw [hs1, if_pos (Int32.le_refl _)]
    | succ m ih =>
      intro i k hi hk
      obtain ⟨k', rfl⟩ : ∃ k', k = k' + 1 := ⟨k - 1, by omega⟩
      obtain ⟨s, c, c1, c2, c3, c4, c5⟩ := hs3 i (by omega)
      have hs31 : s < 2147483648 := by omega
      have j2 : ixb (pu_I s) (n2 2) = true := (pu_ix hs31).mpr (by omega)
      have j3 : ixb (pu_I s) (n2 3) = true := (pu_ix hs31).mpr (by omega)
      have j4 : ixb (pu_I s) (n2 4) = true := (pu_ix hs31).mpr (by omega)
      have j5 : ixb (pu_I s) (n2 5) = true := (pu_ix hs31).mpr (by omega)
      have hgo := ih (i + 1) k' (by omega) (by omega)
      have h133 : fX5_joinSeen_J133 (fX5_joinSeen_L9 g l (pu_I b) (pu_I a) n2 w2 k') (pu_I i) = fX5_joinSeen_L9 g l (pu_I b) (pu_I a) n2 w2 k' (pu_I (i + 1)) := by
        unfold fX5_joinSeen_J133
        rw [pu_su]
      have h85 : fX5_joinSeen_J85 (fX5_joinSeen_L9 g l (pu_I b) (pu_I a) n2 w2 k') g l (pu_I b) (pu_I a) n2 w2 (pu_I i) = fX5_joinSeen_L9 g l (pu_I b) (pu_I a) n2 w2 k' (pu_I (i + 1)) := by
        unfold fX5_joinSeen_J85 fX5_joinSeen_J86
        rw [if_pos rfl, h133]
      have h86 : fX5_joinSeen_J86 (fX5_joinSeen_L9 g l (pu_I b) (pu_I a) n2 w2 k') g l (pu_I b) (pu_I a) n2 w2 (pu_I i) 1 = (if pv_bt (l 16 b) c = true then some (Sum.inl (upw g 6 (nn (w2 3 a)) (w2 3 s))) else fX5_joinSeen_L9 g l (pu_I b) (pu_I a) n2 w2 k' (pu_I (i + 1))) := by
        unfold fX5_joinSeen_J86
        rw [if_neg (by decide), if_pos ((pu_ix (by omega)).mpr (by omega)), if_pos ((pu_ix (by omega)).mpr (by omega)), pu_nn (by omega), pu_nn (by omega), c4, pv_holds (by omega), Option.bind_some, h133, if_pos i3, c3, if_pos j3, pu_nn ha31, if_pos hgv, pu_nn hs31]
        simp only [lt9]
        by_cases hx : pv_bt (l 16 b) c = true
        · rw [if_pos hx, hx, if_neg (by decide)]
        · rw [if_neg hx]
          have hx : pv_bt (l 16 b) c = false := by simpa using hx
          rw [hx, if_pos (by decide)]
      have hform : fX5_joinSeen_L9 g l (pu_I b) (pu_I a) n2 w2 (k' + 1) (pu_I i) = (if w2 2 s = w2 2 a then (if w2 4 s = w2 4 a then (if w2 5 s = w2 5 a then (if pv_bt (l 16 b) c = true then some (Sum.inl (upw g 6 (nn (w2 3 a)) (w2 3 s))) else fX5_joinSeen_L9 g l (pu_I b) (pu_I a) n2 w2 k' (pu_I (i + 1))) else fX5_joinSeen_L9 g l (pu_I b) (pu_I a) n2 w2 k' (pu_I (i + 1))) else fX5_joinSeen_L9 g l (pu_I b) (pu_I a) n2 w2 k' (pu_I (i + 1))) else fX5_joinSeen_L9 g l (pu_I b) (pu_I a) n2 w2 k' (pu_I (i + 1))) := by
        show (if (g 0 10) ≤ pu_I i then some (Sum.inr ()) else (if ixb (pu_I i) 250 = true then (if ixb (g 9 (nn (pu_I i))) (n2 2) = true then (if ixb (pu_I a) (n2 2) = true then (if (w2 2 (nn (g 9 (nn (pu_I i))))) = (w2 2 (nn (pu_I a))) then (if ixb (g 9 (nn (pu_I i))) (n2 4) = true then (if ixb (pu_I a) (n2 4) = true then (if (w2 4 (nn (g 9 (nn (pu_I i))))) = (w2 4 (nn (pu_I a))) then (if ixb (g 9 (nn (pu_I i))) (n2 5) = true then (if ixb (pu_I a) (n2 5) = true then (if (w2 5 (nn (g 9 (nn (pu_I i))))) = (w2 5 (nn (pu_I a))) then (fX5_joinSeen_J86 (fX5_joinSeen_L9 g l (pu_I b) (pu_I a) n2 w2 k') g l (pu_I b) (pu_I a) n2 w2 (pu_I i) 1) else (fX5_joinSeen_J85 (fX5_joinSeen_L9 g l (pu_I b) (pu_I a) n2 w2 k') g l (pu_I b) (pu_I a) n2 w2 (pu_I i))) else none) else none) else (fX5_joinSeen_J85 (fX5_joinSeen_L9 g l (pu_I b) (pu_I a) n2 w2 k') g l (pu_I b) (pu_I a) n2 w2 (pu_I i))) else none) else none) else (fX5_joinSeen_J85 (fX5_joinSeen_L9 g l (pu_I b) (pu_I a) n2 w2 k') g l (pu_I b) (pu_I a) n2 w2 (pu_I i))) else none) else none) else none)) = _
        rw [hs1, if_neg (by rw [pu_le (by omega) (by omega)]; omega), if_pos ((pu_ix (by omega)).mpr (by omega)), pu_nn (show i < 2147483648 by omega), c3, if_pos j2, if_pos i2, pu_nn hs31, pu_nn ha31, if_pos j4, if_pos i4, if_pos j5, if_pos i5, h85, h86]
      rw [hform]
      by_cases d1 : w2 2 s = w2 2 a
      · rw [if_pos d1]
        by_cases d2 : w2 4 s = w2 4 a
        · rw [if_pos d2]
          by_cases d3 : w2 5 s = w2 5 a
          · rw [if_pos d3]
            by_cases d4 : pv_bt (l 16 b) c = true
            · rw [if_pos d4]
              exact ⟨_, rfl, Or.inr ⟨s, c, c1, c2, c5, d4, d1, d2, d3, rfl⟩⟩
            · rw [if_neg d4]; exact hgo
          · rw [if_neg d3]; exact hgo
        · rw [if_neg d2]; exact hgo
      · rw [if_neg d1]; exact hgo
  obtain ⟨t, t1, t2⟩ := hrun sn 0 NF (by omega) (by have := pv_NF; omega)
  have t1 : fX5_joinSeen_L9 g l (pu_I b) (pu_I a) n2 w2 NF 0 = some t := t1
  unfold fX5_joinSeen fX5_joinSeen_J179
  rw [t1, Option.bind_some]
  rcases t2 with rfl | ⟨s, c, c1, c2, c3, c4, c5, c6, c7, rfl⟩
  · show ∃ g', (if 250 ≤ (g 0 10) then some g else (if ixb (g 0 10) 250 = true then (lt9 (upw g 9 (nn (g 0 10)) (pu_I a)) fun (w24 : ST) => (if ixb (w24 0 10) 250 = true then (lt9 (upw w24 10 (nn (w24 0 10)) (pu_I b)) fun (w26 : ST) => (lt9 (upw w26 0 10 ((w26 0 10) + 1)) fun (w27 : ST) => some w27)) else none)) else none)) = some g' ∧ _
    rw [hs1, show (250 : Int32) = pu_I 250 from rfl]
    by_cases h250 : 250 ≤ sn
    · rw [if_pos ((pu_le (by decide) (by omega)).mpr h250)]
      exact ⟨g, rfl, Or.inr ⟨fun _ _ _ _ => rfl, fun _ _ => rfl, sn, hs1, hs2, fun i hi => by
        obtain ⟨s, c, s1, s2, s3, s4, s5⟩ := hs3 i hi
        exact ⟨s, c, s1, s2, s3, s4, Or.inl s5⟩⟩⟩
    · have e1 : upw g 9 sn (pu_I a) 0 10 = pu_I sn := by rw [pv_upw_n (q := 0) (r := 9) (by decide)]; exact hs1
      rw [if_neg (by rw [pu_le (by decide) (by omega)]; exact h250), if_pos ((pu_ix (by omega)).mpr (by omega)), pu_nn (by omega)]
      simp only [lt9]
      rw [e1, if_pos ((pu_ix (by omega)).mpr (by omega)), pu_nn (by omega), pv_upw_n (q := 0) (r := 10) (by decide), e1, pu_su]
      refine ⟨_, rfl, Or.inr ⟨fun r h0 h9 h10 => by rw [pv_upw_n h0, pv_upw_n h10, pv_upw_n h9], fun i hi => ?_, sn + 1, ?_, by omega, fun i hi => ?_⟩⟩
      · rw [pv_upw, if_neg fun c => hi c.2, pv_upw_n (q := 0) (r := 10) (by decide), pv_upw_n (q := 0) (r := 9) (by decide)]
      · rw [pv_upw, if_pos ⟨rfl, rfl⟩]
      · rw [pv_upw_n (q := 9) (r := 0) (by decide), pv_upw_n (q := 9) (r := 10) (by decide), pv_upw_n (q := 10) (r := 0) (by decide), pv_upw, pv_upw]
        by_cases h : i = sn
        · refine ⟨a, b, ha, hb, ?_, ?_, Or.inr ⟨rfl, rfl⟩⟩
          · rw [if_pos ⟨rfl, h⟩]
          · rw [if_pos ⟨rfl, h⟩]
        · obtain ⟨s, c, s1, s2, s3, s4, s5⟩ := hs3 i (by omega)
          refine ⟨s, c, s1, s2, ?_, ?_, Or.inl s5⟩
          · rw [if_neg fun c => h c.2]; exact s3
          · rw [if_neg fun c => h c.2, pv_upw_n (q := 10) (r := 9) (by decide)]; exact s4
  · exact ⟨_, rfl, Or.inl ⟨s, c, c1, c2, c3, c4, c5, c6, c7, rfl⟩⟩
end JS
