/-! pure side, stores 15: what stands for an operator, the rest -/
section NV
variable {g w2 : ST} {n2 : Nat → Nat} {N : Nat}
theorem pv_rightAlone (hN2 : N ≤ n2 2) (hN4 : N ≤ n2 4) (hN : N < 50000) (hg : pv_gr g N) {k x y : Int32} (hx : ixb x 250 = true) :
    ∃ o, fX5_isRightAlone g k x n2 w2 = some (pv_b o) ∧ (o = true → pv_al g w2 x y fun ex ey => pu_fail k ey = false ∧ pu_cmp k ex ey = ey) := by
  have key : ∀ (c : Int32), ((fX5_isNumber_ g x c n2 w2).bind fun (o_3 : Int32) => (if o_3 = 0 ∨ o_3 = 1 then some o_3 else none)) = some (pv_b (pv_nm g w2 x && decide (pv_nv g w2 x = c))) := fun c => by
    rw [pv_isNumber_ hN2 hN4 hN hg hx, Option.bind_some, pv_J]
  by_cases h1 : k = 1
  · subst h1; exact ⟨_, key 0, fun h => pv_al_x h fun ex => ⟨rfl, by first | exact Int32.zero_add | exact Int32.zero_add _⟩⟩
  by_cases h7 : k = 7
  · subst h7; exact ⟨_, key 0, fun h => pv_al_x h fun ex => ⟨rfl, by first | exact Int32.zero_or | exact Int32.zero_or _⟩⟩
  by_cases h8 : k = 8
  · subst h8; exact ⟨_, key 0, fun h => pv_al_x h fun ex => ⟨rfl, by first | exact Int32.zero_xor | exact Int32.zero_xor _⟩⟩
  by_cases h3 : k = 3
  · subst h3
    refine ⟨_, ?_, fun h => pv_al_x (c := 1) h fun ex => ⟨rfl, by first | exact Int32.one_mul | exact Int32.one_mul _⟩⟩
    have hform : fX5_isRightAlone g 3 x n2 w2 = ((fX5_isNumber_ g x 1 n2 w2).bind fun (o_7 : Int32) => (if o_7 = 0 then (fX5_isRightAlone_J44) else (fX5_isRightAlone_J45 1))) := rfl
    rw [hform, pv_isNumber_ hN2 hN4 hN hg hx, Option.bind_some]
    cases (pv_nm g w2 x && decide (pv_nv g w2 x = 1)) <;> rfl
  refine ⟨false, ?_, fun h => by cases h⟩
  unfold fX5_isRightAlone
  rw [if_neg h1, if_neg h7, if_neg h8, if_neg h3]
  rfl
theorem pv_alwaysZero (hN2 : N ≤ n2 2) (hN4 : N ≤ n2 4) (hN : N < 50000) (hg : pv_gr g N) {k x y : Int32} (hx : ixb x 250 = true) (hy : ixb y 250 = true) :
    ∃ o, fX5_isAlwaysZero g k x y n2 w2 = some (pv_b o) ∧ (o = true → pv_al g w2 x y fun ex ey => pu_fail k ey = false ∧ pu_cmp k ex ey = 0) := by
  have k76 : fX5_isAlwaysZero_J76 g x y n2 w2 = some (pv_b ((pv_nm g w2 x && decide (pv_nv g w2 x = 0)) || (pv_nm g w2 y && decide (pv_nv g w2 y = 0)))) := by
    unfold fX5_isAlwaysZero_J76
    rw [pv_isNumber_ hN2 hN4 hN hg hx, Option.bind_some, pv_isNumber_ hN2 hN4 hN hg hy, Option.bind_some]
    cases (pv_nm g w2 x && decide (pv_nv g w2 x = 0)) <;> cases (pv_nm g w2 y && decide (pv_nv g w2 y = 0)) <;> rfl
  have k112 : fX5_isAlwaysZero_J112 x y = some (pv_b (decide (x = y))) := by
    unfold fX5_isAlwaysZero_J112
    by_cases e : x = y
    · rw [if_pos e, decide_eq_true e]; rfl
    · rw [if_neg e, decide_eq_false e]; rfl
  have e112 : ∀ (P : Int32 → Int32 → Prop), (∀ ex, P ex ex) → decide (x = y) = true → pv_al g w2 x y P := fun P hP h => pv_al_e (of_decide_eq_true h) hP
  have e76 : ∀ (P : Int32 → Int32 → Prop), (∀ ey, P 0 ey) → (∀ ex, P ex 0) → ((pv_nm g w2 x && decide (pv_nv g w2 x = 0)) || (pv_nm g w2 y && decide (pv_nv g w2 y = 0))) = true → pv_al g w2 x y P := fun P h1 h2 h => by
    rcases (Bool.or_eq_true _ _).mp h with h | h
    · exact pv_al_x h h1
    · exact pv_al_y h h2
  by_cases h2 : k = 2
  · subst h2; exact ⟨_, k112, e112 _ fun ex => ⟨rfl, by first | exact Int32.sub_self | exact Int32.sub_self _⟩⟩
  by_cases h3 : k = 3
  · subst h3; exact ⟨_, k76, e76 _ (fun ex => ⟨rfl, by first | exact Int32.zero_mul | exact Int32.zero_mul _⟩) (fun ex => ⟨rfl, by first | exact Int32.mul_zero | exact Int32.mul_zero _⟩)⟩
  by_cases h4 : k = 4
  · subst h4; exact ⟨false, rfl, fun h => by cases h⟩
  by_cases h5 : k = 5
  · subst h5
    refine ⟨_, ?_, fun h => pv_al_y (c := 1) h fun ex => ⟨rfl, ?_⟩⟩
    · have hform : fX5_isAlwaysZero g 5 x y n2 w2 = ((fX5_isNumber_ g y 1 n2 w2).bind fun (o_12 : Int32) => (if o_12 = 0 ∨ o_12 = 1 then some o_12 else none)) := rfl
      rw [hform, pv_isNumber_ hN2 hN4 hN hg hy, Option.bind_some, pv_J]
    · show (if (1 : Int32) = 0 then 0 else ex - ex / 1 * 1) = 0
      rw [if_neg (by decide), Int32.mul_one, Int32.div_one, Int32.sub_self]
  by_cases h6 : k = 6
  · subst h6; exact ⟨_, k76, e76 _ (fun ex => ⟨rfl, by first | exact Int32.zero_and | exact Int32.zero_and _⟩) (fun ex => ⟨rfl, by first | exact Int32.and_zero | exact Int32.and_zero _⟩)⟩
  by_cases h7 : k = 7
  · subst h7; exact ⟨false, rfl, fun h => by cases h⟩
  by_cases h8 : k = 8
  · subst h8; exact ⟨_, k112, e112 _ fun ex => ⟨rfl, by first | exact Int32.xor_self | exact Int32.xor_self _⟩⟩
  by_cases h9 : k = 9
  · subst h9; exact ⟨false, rfl, fun h => by cases h⟩
  by_cases h10 : k = 10
  · subst h10; exact ⟨false, rfl, fun h => by cases h⟩
  by_cases h11 : k = 11
  · subst h11; exact ⟨_, k112, e112 _ fun ex => ⟨rfl, if_pos (Int32.le_refl ex)⟩⟩
  by_cases h12 : k = 12
  · subst h12; exact ⟨false, rfl, fun h => by cases h⟩
  by_cases h13 : k = 13
  · subst h13; exact ⟨_, k112, e112 _ fun ex => ⟨rfl, if_pos (Int32.le_refl ex)⟩⟩
  by_cases h14 : k = 14
  · subst h14; exact ⟨false, rfl, fun h => by cases h⟩
  by_cases h15 : k = 15
  · subst h15; exact ⟨false, rfl, fun h => by cases h⟩
  by_cases h16 : k = 16
  · subst h16; exact ⟨_, k112, e112 _ fun ex => ⟨rfl, if_pos rfl⟩⟩
  refine ⟨false, ?_, fun h => by cases h⟩
  unfold fX5_isAlwaysZero
  rw [if_neg h2, if_neg h3, if_neg h4, if_neg h5, if_neg h6, if_neg h7, if_neg h8, if_neg h9, if_neg h10, if_neg h11, if_neg h12, if_neg h13, if_neg h14, if_neg h15, if_neg h16]
  rfl
theorem pv_alwaysOne {k x : Int32} (hk : k = 15 ∨ k = 12 ∨ k = 14) : pu_fail k x = false ∧ pu_cmp k x x = 1 := by
  rcases hk with rfl | rfl | rfl
  · exact ⟨rfl, if_pos rfl⟩
  · exact ⟨rfl, if_neg (Int32.lt_irrefl)⟩
  · exact ⟨rfl, if_neg (Int32.lt_irrefl)⟩
def pv_ew (k : Int32) : Bool := decide (k = 1 ∨ k = 3 ∨ k = 6 ∨ k = 7 ∨ k = 8 ∨ k = 15 ∨ k = 16)
theorem pv_eitherWay (k : Int32) : fX5_isEitherWay k = some (pv_b (pv_ew k)) := by
  unfold fX5_isEitherWay fX5_isEitherWay_J40 fX5_isEitherWay_J45 pv_ew
  by_cases h1 : k = 1
  · subst h1; rfl
  by_cases h3 : k = 3
  · subst h3; rfl
  by_cases h6 : k = 6
  · subst h6; rfl
  by_cases h7 : k = 7
  · subst h7; rfl
  by_cases h8 : k = 8
  · subst h8; rfl
  by_cases h15 : k = 15
  · subst h15; rfl
  by_cases h16 : k = 16
  · subst h16; rfl
  rw [if_neg h1, if_neg h3, if_neg h6, if_neg h7, if_neg h8, if_neg h15, if_neg h16, decide_eq_false (by simp [h1, h3, h6, h7, h8, h15, h16])]
  rfl
theorem pv_ew_cmp {k x y : Int32} (h : pv_ew k = true) : pu_fail k x = false ∧ pu_fail k y = false ∧ pu_cmp k y x = pu_cmp k x y := by
  unfold pv_ew at h
  rw [decide_eq_true_iff] at h
  rcases h with rfl | rfl | rfl | rfl | rfl | rfl | rfl
  · exact ⟨rfl, rfl, by first | exact Int32.add_comm | exact Int32.add_comm _ _⟩
  · exact ⟨rfl, rfl, by first | exact Int32.mul_comm | exact Int32.mul_comm _ _⟩
  · exact ⟨rfl, rfl, by first | exact Int32.and_comm | exact Int32.and_comm _ _⟩
  · exact ⟨rfl, rfl, by first | exact Int32.or_comm | exact Int32.or_comm _ _⟩
  · exact ⟨rfl, rfl, by first | exact Int32.xor_comm | exact Int32.xor_comm _ _⟩
  · refine ⟨rfl, rfl, ?_⟩
    show (if y = x then (1 : Int32) else 0) = (if x = y then 1 else 0)
    by_cases e : x = y
    · rw [if_pos e, if_pos e.symm]
    · rw [if_neg e, if_neg fun c => e c.symm]
  · refine ⟨rfl, rfl, ?_⟩
    show (if y = x then (0 : Int32) else 1) = (if x = y then 0 else 1)
    by_cases e : x = y
    · rw [if_pos e, if_pos e.symm]
    · rw [if_neg e, if_neg fun c => e c.symm]
end NV
