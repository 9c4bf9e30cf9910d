/-! pure side, stores 19: one operator is joined -/
theorem pv_become {n2 : Nat → Nat} {w : ST} {a : Nat} {c : Int32} (h2 : a < n2 2) (h4 : a < n2 4) (h5 : a < n2 5) (ha : a < 2147483648) : fX5_becomeNumber n2 w (pu_I a) c = some (upw (upw (upw w 2 a 0) 4 a c) 5 a (-1)) := by
  unfold fX5_becomeNumber
  rw [if_pos ((pu_ix ha).mpr h2), pu_nn ha]
  simp only [lt9]
  rw [if_pos ((pu_ix ha).mpr h4), if_pos ((pu_ix ha).mpr h5)]
def pv_w12 (w2 : ST) (a : Nat) (x y : Int32) : ST := upw (upw w2 4 a x) 5 a y
theorem pv_w12_n {w2 : ST} {a : Nat} {x y : Int32} {r : Nat} (h4 : r ≠ 4) (h5 : r ≠ 5) : pv_w12 w2 a x y r = w2 r := by
  unfold pv_w12
  rw [pv_upw_n h5, pv_upw_n h4]
theorem pv_nm_12 {g w2 : ST} {a : Nat} {x y v : Int32} : pv_nm g (pv_w12 w2 a x y) v = pv_nm g w2 v := by
  unfold pv_nm
  rw [pv_w12_n (by decide) (by decide)]
theorem pv_nv_12 {g w2 : ST} {a : Nat} {x y v : Int32} (hk : w2 2 a ≠ 0) (h : pv_nm g w2 v = true) : pv_nv g (pv_w12 w2 a x y) v = pv_nv g w2 v := by
  unfold pv_nm at h
  simp at h
  have hne : nn (g 2 (nn v)) ≠ a := fun e => hk (by rw [← e]; exact h.2)
  unfold pv_nv pv_w12
  rw [pv_upw_n (q := 4) (r := 5) (by decide), pv_upw, if_neg fun c => hne c.2]
theorem pv_al_12 {g w2 : ST} {a : Nat} {x y u v : Int32} {P : Int32 → Int32 → Prop} (hk : w2 2 a ≠ 0) (h : pv_al g (pv_w12 w2 a x y) u v P) : pv_al g w2 u v P := by
  intro ex ey h1 h2 h3
  refine h ex ey (fun hm => ?_) (fun hm => ?_) h3
  · rw [pv_nm_12] at hm
    rw [pv_nv_12 hk hm]
    exact h1 hm
  · rw [pv_nm_12] at hm
    rw [pv_nv_12 hk hm]
    exact h2 hm
def pv_jo (g w2 : ST) (a : Nat) (k gv x y : Int32) (g' w2' : ST) : Prop :=
  (∃ c, g' = upw g 7 (nn gv) 1 ∧ w2' = upw (upw (upw (pv_w12 w2 a x y) 2 a 0) 4 a c) 5 a (-1) ∧ pv_al g w2 x y fun ex ey => pu_fail k ey = false ∧ pu_cmp k ex ey = c) ∨
  (∃ z, g' = upw g 6 (nn gv) z ∧ w2' = pv_w12 w2 a x y ∧ ((z = x ∧ pv_al g w2 x y fun ex ey => pu_fail k ey = false ∧ pu_cmp k ex ey = ex) ∨ (z = y ∧ pv_al g w2 x y fun ex ey => pu_fail k ey = false ∧ pu_cmp k ex ey = ey))) ∨
  (g' = g ∧ (w2' = pv_w12 w2 a x y ∨ (pv_ew k = true ∧ w2' = upw (upw (pv_w12 w2 a x y) 4 a y) 5 a x)))
section JO
variable {g w2 : ST} {n2 : Nat → Nat} {N : Nat}
theorem pv_jo131 (hN2 : N ≤ n2 2) (hN4 : N ≤ n2 4) (hN5 : N ≤ n2 5) (hN : N < 50000) (hg : pv_gr g N) {a : Nat} (ha : a < N) (hk : w2 2 a ≠ 0) (hgv : ixb (w2 3 a) 250 = true) {x y : Int32} (hx : ixb x 250 = true) (hy : ixb y 250 = true) :
    ∃ g' w2', fX5_joinOperator_J131 g (pu_I a) n2 w2 x y (pv_w12 w2 a x y) = some (g', w2') ∧ pv_jo g w2 a (w2 2 a) (w2 3 a) x y g' w2' := by
  have ha31 : a < 2147483648 := by omega
  obtain ⟨o1, e1, f1⟩ := pv_leftAlone (w2 := pv_w12 w2 a x y) hN2 hN4 hN hg (k := w2 2 a) (x := x) hy
  obtain ⟨o2, e2, f2⟩ := pv_rightAlone (w2 := pv_w12 w2 a x y) hN2 hN4 hN hg (k := w2 2 a) (y := y) hx
  obtain ⟨o3, e3, f3⟩ := pv_alwaysZero (w2 := pv_w12 w2 a x y) hN2 hN4 hN hg (k := w2 2 a) hx hy
  have b : ∀ c : Int32, fX5_becomeNumber n2 (pv_w12 w2 a x y) (pu_I a) c = some (upw (upw (upw (pv_w12 w2 a x y) 2 a 0) 4 a c) 5 a (-1)) := fun c => pv_become (by omega) (by omega) (by omega) ha31
  have h242 : fX5_joinOperator_J242 g (pu_I a) n2 w2 (pv_w12 w2 a x y) = some (upw g 7 (nn (w2 3 a)) 1, upw (upw (upw (pv_w12 w2 a x y) 2 a 0) 4 a 1) 5 a (-1)) := by
    unfold fX5_joinOperator_J242 fX5_joinOperator_J290
    rw [pu_nn ha31, if_pos hgv]
    simp only [lt9]
    rw [b, Option.bind_some]
  have h259 : ∃ g' w2', fX5_joinOperator_J259 g (pu_I a) n2 w2 x y (pv_w12 w2 a x y) = some (g', w2') ∧ pv_jo g w2 a (w2 2 a) (w2 3 a) x y g' w2' := by
    unfold fX5_joinOperator_J259 fX5_joinOperator_J290
    rw [pu_nn ha31, pv_eitherWay, Option.bind_some]
    by_cases hxy : x ≤ y
    · rw [if_pos hxy]
      exact ⟨_, _, rfl, Or.inr (Or.inr ⟨rfl, Or.inl rfl⟩)⟩
    · rw [if_neg hxy]
      by_cases he : pv_ew (w2 2 a) = true
      · rw [he, if_neg (by decide), if_pos ((pu_ix ha31).mpr (by omega))]
        simp only [lt9]
        rw [if_pos ((pu_ix ha31).mpr (by omega))]
        exact ⟨_, _, rfl, Or.inr (Or.inr ⟨rfl, Or.inr ⟨he, rfl⟩⟩)⟩
      · have he : pv_ew (w2 2 a) = false := by simpa using he
        rw [he, if_pos (by decide)]
        exact ⟨_, _, rfl, Or.inr (Or.inr ⟨rfl, Or.inl rfl⟩)⟩
  unfold fX5_joinOperator_J131
  rw [pu_nn ha31, e1, Option.bind_some]
  by_cases h1 : o1 = true
  · subst h1
    rw [if_neg (by decide), if_pos hgv]
    exact ⟨_, _, rfl, Or.inr (Or.inl ⟨x, rfl, rfl, Or.inl ⟨rfl, pv_al_12 hk (f1 rfl)⟩⟩)⟩
  have h1 : o1 = false := by simpa using h1
  subst h1
  rw [if_pos (by decide), e2, Option.bind_some]
  by_cases h2 : o2 = true
  · subst h2
    rw [if_neg (by decide), if_pos hgv]
    exact ⟨_, _, rfl, Or.inr (Or.inl ⟨y, rfl, rfl, Or.inr ⟨rfl, pv_al_12 hk (f2 rfl)⟩⟩)⟩
  have h2 : o2 = false := by simpa using h2
  subst h2
  rw [if_pos (by decide), e3, Option.bind_some]
  by_cases h3 : o3 = true
  · subst h3
    rw [if_neg (by decide), if_pos hgv]
    simp only [lt9]
    rw [b, Option.bind_some]
    exact ⟨_, _, rfl, Or.inl ⟨0, rfl, rfl, pv_al_12 hk (f3 rfl)⟩⟩
  have h3 : o3 = false := by simpa using h3
  subst h3
  rw [if_pos (by decide)]
  by_cases hxy : x = y
  · rw [if_pos hxy]
    by_cases hop : w2 2 a = 15 ∨ w2 2 a = 12 ∨ w2 2 a = 14
    · refine ⟨_, _, ?_, Or.inl ⟨1, rfl, rfl, pv_al_e hxy fun ex => pv_alwaysOne hop⟩⟩
      rw [← h242]
      rcases hop with h | h | h
      · rw [if_pos h]
      · rw [if_neg (by rw [h]; decide), if_pos h]
      · rw [if_neg (by rw [h]; decide), if_neg (by rw [h]; decide), if_pos h]
    · rw [if_neg fun c => hop (Or.inl c), if_neg fun c => hop (Or.inr (Or.inl c)), if_neg fun c => hop (Or.inr (Or.inr c))]
      exact h259
  · rw [if_neg hxy]
    exact h259
theorem pv_joinOperator (hN2 : N ≤ n2 2) (hN3 : N ≤ n2 3) (hN4 : N ≤ n2 4) (hN5 : N ≤ n2 5) (hN : N < 50000) (hg : pv_gr g N) (hs : pv_sk g) {a : Nat} (ha : a < N) (hk : w2 2 a ≠ 0) (hgv : ixb (w2 3 a) 250 = true) (hl : ixb (w2 4 a) 250 = true) (hr : ixb (w2 5 a) 250 = true) :
    ∃ g' w2', fX5_joinOperator g (pu_I a) n2 w2 = some (g', w2') ∧ pv_jo g w2 a (w2 2 a) (w2 3 a) (pv_sg g (w2 4 a)) (pv_sg g (w2 5 a)) g' w2' := by
  have ha31 : a < 2147483648 := by omega
  have hx := (pv_sg_root hs hl).1
  have hy := (pv_sg_root hs hr).1
  have i2 : ixb (pu_I a) (n2 2) = true := (pu_ix ha31).mpr (by omega)
  have i3 : ixb (pu_I a) (n2 3) = true := (pu_ix ha31).mpr (by omega)
  have i4 : ixb (pu_I a) (n2 4) = true := (pu_ix ha31).mpr (by omega)
  have i5 : ixb (pu_I a) (n2 5) = true := (pu_ix ha31).mpr (by omega)
  have h131 := pv_jo131 (n2 := n2) hN2 hN4 hN5 hN hg ha hk hgv hx hy
  have b : ∀ c : Int32, fX5_becomeNumber n2 (pv_w12 w2 a (pv_sg g (w2 4 a)) (pv_sg g (w2 5 a))) (pu_I a) c = some (upw (upw (upw (pv_w12 w2 a (pv_sg g (w2 4 a)) (pv_sg g (w2 5 a))) 2 a 0) 4 a c) 5 a (-1)) := fun c => pv_become (by omega) (by omega) (by omega) ha31
  unfold fX5_joinOperator
  rw [if_pos i2, if_pos i3, if_pos i4, pu_nn ha31, pv_standInOf hs hl, Option.bind_some, if_pos i5, pv_standInOf hs hr, Option.bind_some, if_pos i4]
  simp only [lt9]
  rw [if_pos i5]
  show ∃ g' w2', ((fX5_isNumber g (pv_sg g (w2 4 a)) n2 (pv_w12 w2 a (pv_sg g (w2 4 a)) (pv_sg g (w2 5 a)))).bind _) = some (g', w2') ∧ _
  rw [pv_isNumber hN2 hN hg hx, Option.bind_some, pv_nm_12]
  by_cases m1 : pv_nm g w2 (pv_sg g (w2 4 a)) = true
  · rw [m1, if_neg (by decide)]
    show ∃ g' w2', ((fX5_isNumber g (pv_sg g (w2 5 a)) n2 (pv_w12 w2 a (pv_sg g (w2 4 a)) (pv_sg g (w2 5 a)))).bind _) = some (g', w2') ∧ _
    rw [pv_isNumber hN2 hN hg hy, Option.bind_some, pv_nm_12]
    by_cases m2 : pv_nm g w2 (pv_sg g (w2 5 a)) = true
    · rw [m2, if_neg (by decide)]
      show ∃ g' w2', ((fX5_numberOf g (pv_sg g (w2 5 a)) n2 (pv_w12 w2 a (pv_sg g (w2 4 a)) (pv_sg g (w2 5 a)))).bind _) = some (g', w2') ∧ _
      rw [pv_numberOf hN4 hN hg hy (by rw [pv_nm_12]; exact m2), Option.bind_some, pv_failing, Option.bind_some, pv_nv_12 hk m2]
      by_cases hf : pu_fail (w2 2 a) (pv_nv g w2 (pv_sg g (w2 5 a))) = true
      · rw [hf, if_neg (by decide)]
        exact h131
      · have hf : pu_fail (w2 2 a) (pv_nv g w2 (pv_sg g (w2 5 a))) = false := by simpa using hf
        rw [hf, if_pos (by decide), if_pos hgv]
        have r2 : upw g 7 (nn (w2 3 a)) 1 2 = g 2 := pv_upw_n (by decide)
        have hg' : pv_gr (upw g 7 (nn (w2 3 a)) 1) N := by unfold pv_gr; rw [r2]; exact hg
        have em : ∀ (W : ST) v, pv_nm (upw g 7 (nn (w2 3 a)) 1) W v = pv_nm g W v := fun W v => by unfold pv_nm; rw [r2]
        have ev : ∀ (W : ST) v, pv_nv (upw g 7 (nn (w2 3 a)) 1) W v = pv_nv g W v := fun W v => by unfold pv_nv; rw [r2]
        show ∃ g' w2', ((fX5_numberOf (upw g 7 (nn (w2 3 a)) 1) (pv_sg g (w2 4 a)) n2 (pv_w12 w2 a (pv_sg g (w2 4 a)) (pv_sg g (w2 5 a)))).bind _) = some (g', w2') ∧ _
        rw [pv_numberOf hN4 hN hg' hx (by rw [em, pv_nm_12]; exact m1), Option.bind_some]
        show ∃ g' w2', ((fX5_numberOf (upw g 7 (nn (w2 3 a)) 1) (pv_sg g (w2 5 a)) n2 (pv_w12 w2 a (pv_sg g (w2 4 a)) (pv_sg g (w2 5 a)))).bind _) = some (g', w2') ∧ _
        rw [pv_numberOf hN4 hN hg' hy (by rw [em, pv_nm_12]; exact m2), Option.bind_some, pv_compute, Option.bind_some, ev, ev, pv_nv_12 hk m1, pv_nv_12 hk m2]
        show ∃ g' w2', ((fX5_becomeNumber n2 (pv_w12 w2 a (pv_sg g (w2 4 a)) (pv_sg g (w2 5 a))) (pu_I a) (pu_cmp (w2 2 a) (pv_nv g w2 (pv_sg g (w2 4 a))) (pv_nv g w2 (pv_sg g (w2 5 a))))).bind _) = some (g', w2') ∧ _
        rw [b, Option.bind_some]
        refine ⟨_, _, rfl, Or.inl ⟨_, rfl, rfl, fun ex ey h1 h2 _ => ?_⟩⟩
        rw [h1 m1, h2 m2]
        exact ⟨hf, rfl⟩
    · have m2 : pv_nm g w2 (pv_sg g (w2 5 a)) = false := by simpa using m2
      rw [m2, if_pos (by decide)]
      exact h131
  · have m1 : pv_nm g w2 (pv_sg g (w2 4 a)) = false := by simpa using m1
    rw [m1, if_pos (by decide)]
    exact h131
end JO
