/-! pure side, stores 14: numbers that are known, and what then stands for an operator -/
theorem pv_compute (k x y : Int32) : fX11_compute k x y = some (pu_cmp k x y) := by
  have hi : ∀ (c : Prop) [Decidable c] (a b : Int32), (if c then some a else some b) = some (if c then a else b) := by
    intro c _ a b
    by_cases h : c
    · rw [if_pos h, if_pos h]
    · rw [if_neg h, if_neg h]
  have h4 : ∀ a : Int32, (if y = 0 then some 0 else (if ¬ y = 0 then some a else none)) = some (if y = 0 then 0 else a) := by
    intro a
    by_cases h : y = 0
    · rw [if_pos h, if_pos h]
    · rw [if_neg h, if_neg h, if_pos h]
  unfold fX11_compute pu_cmp fX11_compute_J99 fX11_compute_J111 fX11_compute_J148 fX11_compute_J159 fX11_compute_J170 fX11_compute_J181 fX11_compute_J192 fX11_compute_J203
  simp only [h4, hi]
theorem pv_failing (k y : Int32) : fX11_isFailing k y = some (pv_b (pu_fail k y)) := by
  unfold fX11_isFailing fX11_isFailing_J10 fX11_isFailing_J18 fX11_isFailing_J19 pu_fail
  by_cases h4 : k = 4
  · subst h4
    by_cases hy : y = 0
    · subst hy; rfl
    · rw [if_pos rfl, if_neg hy, if_pos (Or.inl rfl), decide_eq_false (fun c => hy c.2)]; rfl
  · rw [if_neg h4]
    by_cases h5 : k = 5
    · subst h5
      by_cases hy : y = 0
      · subst hy; rfl
      · rw [if_pos rfl, if_neg hy, if_pos (Or.inl rfl), decide_eq_false (fun c => hy c.2)]; rfl
    · rw [if_neg h5, if_pos (Or.inl rfl), decide_eq_false (fun c => c.1.elim h4 h5)]; rfl
def pv_nm (g w2 : ST) (v : Int32) : Bool := !decide (g 2 (nn v) < 0) && decide (w2 2 (nn (g 2 (nn v))) = 0)
def pv_nv (g w2 : ST) (v : Int32) : Int32 := w2 4 (nn (g 2 (nn v)))
theorem pv_J (b : Bool) : (if pv_b b = 0 ∨ pv_b b = 1 then some (pv_b b) else none) = some (pv_b b) := by cases b <;> rfl
def pv_gr (g : ST) (N : Nat) : Prop := ∀ v, v < 250 → ¬ g 2 v < 0 → ∃ z, z < N ∧ g 2 v = pu_I z
section NU
variable {g w2 : ST} {n2 : Nat → Nat} {N : Nat}
theorem pv_isNumber (hN2 : N ≤ n2 2) (hN : N < 50000) (hg : pv_gr g N) {v : Int32} (hv : ixb v 250 = true) : fX5_isNumber g v n2 w2 = some (pv_b (pv_nm g w2 v)) := by
  unfold fX5_isNumber fX5_isNumber_J30 fX5_isNumber_J31 pv_nm
  rw [if_pos hv, if_pos hv]
  by_cases h0 : g 2 (nn v) < 0
  · rw [if_pos h0, if_pos (Or.inl rfl), decide_eq_true h0]; rfl
  · obtain ⟨z, hz, he⟩ := hg _ (pv_ixn hv).2 h0
    rw [if_neg h0, if_pos (by rw [he]; exact (pu_ix (by omega)).mpr (by omega)), decide_eq_false h0]
    by_cases h2 : w2 2 (nn (g 2 (nn v))) = 0
    · rw [if_pos h2, if_pos (Or.inr rfl), decide_eq_true h2]; rfl
    · rw [if_neg h2, if_pos (Or.inl rfl), decide_eq_false h2]; rfl
theorem pv_numberOf (hN4 : N ≤ n2 4) (hN : N < 50000) (hg : pv_gr g N) {v : Int32} (hv : ixb v 250 = true) (hm : pv_nm g w2 v = true) : fX5_numberOf g v n2 w2 = some (pv_nv g w2 v) := by
  unfold pv_nm at hm
  simp at hm
  obtain ⟨z, hz, he⟩ := hg _ (pv_ixn hv).2 (Int32.not_lt.mpr hm.1)
  unfold fX5_numberOf pv_nv
  rw [if_pos hv, if_pos (by rw [he]; exact (pu_ix (by omega)).mpr (by omega))]
theorem pv_isNumber_ (hN2 : N ≤ n2 2) (hN4 : N ≤ n2 4) (hN : N < 50000) (hg : pv_gr g N) {v : Int32} (hv : ixb v 250 = true) (c : Int32) : fX5_isNumber_ g v c n2 w2 = some (pv_b (pv_nm g w2 v && decide (pv_nv g w2 v = c))) := by
  unfold fX5_isNumber_ fX5_isNumber__J23 fX5_isNumber__J24
  rw [pv_isNumber hN2 hN hg hv, Option.bind_some]
  by_cases hm : pv_nm g w2 v = true
  · rw [hm, if_neg (by decide), pv_numberOf hN4 hN hg hv hm, Option.bind_some]
    by_cases hc : pv_nv g w2 v = c
    · rw [if_pos hc, if_pos (Or.inr rfl), decide_eq_true hc]; rfl
    · rw [if_neg hc, if_pos (Or.inl rfl), decide_eq_false hc]; rfl
  · have hm : pv_nm g w2 v = false := by simpa using hm
    rw [hm, if_pos (by decide), if_pos (Or.inl rfl)]; rfl
def pv_al (g w2 : ST) (x y : Int32) (P : Int32 → Int32 → Prop) : Prop := ∀ ex ey, (pv_nm g w2 x = true → ex = pv_nv g w2 x) → (pv_nm g w2 y = true → ey = pv_nv g w2 y) → (x = y → ex = ey) → P ex ey
theorem pv_al_y {x y c : Int32} {P : Int32 → Int32 → Prop} (h : (pv_nm g w2 y && decide (pv_nv g w2 y = c)) = true) (hP : ∀ ex, P ex c) : pv_al g w2 x y P := by
  rw [Bool.and_eq_true, decide_eq_true_iff] at h
  intro ex ey _ h2 _
  rw [h2 h.1, h.2]
  exact hP ex
theorem pv_al_x {x y c : Int32} {P : Int32 → Int32 → Prop} (h : (pv_nm g w2 x && decide (pv_nv g w2 x = c)) = true) (hP : ∀ ey, P c ey) : pv_al g w2 x y P := by
  rw [Bool.and_eq_true, decide_eq_true_iff] at h
  intro ex ey h1 _ _
  rw [h1 h.1, h.2]
  exact hP ey
theorem pv_al_e {x y : Int32} {P : Int32 → Int32 → Prop} (h : x = y) (hP : ∀ ex, P ex ex) : pv_al g w2 x y P := by
  intro ex ey _ _ h3
  rw [← h3 h]
  exact hP ex
theorem pv_leftAlone (hN2 : N ≤ n2 2) (hN4 : N ≤ n2 4) (hN : N < 50000) (hg : pv_gr g N) {k x y : Int32} (hy : ixb y 250 = true) :
    ∃ o, fX5_isLeftAlone g k x y n2 w2 = some (pv_b o) ∧ (o = true → pv_al g w2 x y fun ex ey => pu_fail k ey = false ∧ pu_cmp k ex ey = ex) := by
  have key : ∀ (c : Int32), ((fX5_isNumber_ g y c n2 w2).bind fun (o_3 : Int32) => (if o_3 = 0 ∨ o_3 = 1 then some o_3 else none)) = some (pv_b (pv_nm g w2 y && decide (pv_nv g w2 y = c))) := fun c => by
    rw [pv_isNumber_ hN2 hN4 hN hg hy, Option.bind_some, pv_J]
  by_cases h1 : k = 1
  · subst h1; exact ⟨_, key 0, fun h => pv_al_y h fun ex => ⟨rfl, by first | exact Int32.add_zero | exact Int32.add_zero _⟩⟩
  by_cases h2 : k = 2
  · subst h2; exact ⟨_, key 0, fun h => pv_al_y h fun ex => ⟨rfl, by first | exact Int32.sub_zero | exact Int32.sub_zero _⟩⟩
  by_cases h3 : k = 3
  · subst h3; exact ⟨_, key 1, fun h => pv_al_y h fun ex => ⟨rfl, by first | exact Int32.mul_one | exact Int32.mul_one _⟩⟩
  by_cases h4 : k = 4
  · subst h4; exact ⟨_, key 1, fun h => pv_al_y h fun ex => ⟨rfl, by show (if (1 : Int32) = 0 then 0 else ex / 1) = ex; rw [if_neg (by decide)]; first | exact Int32.div_one | exact Int32.div_one _⟩⟩
  by_cases h5 : k = 5
  · subst h5; exact ⟨false, rfl, fun h => by cases h⟩
  by_cases h6 : k = 6
  · subst h6
    by_cases e : x = y
    · refine ⟨true, ?_, fun _ => pv_al_e e fun ex => ⟨rfl, by first | exact Int32.and_self | exact Int32.and_self _⟩⟩
      show (if x = y then (fX5_isLeftAlone_J99 1) else (fX5_isLeftAlone_J99 0)) = _
      rw [if_pos e]; rfl
    · refine ⟨false, ?_, fun h => by cases h⟩
      show (if x = y then (fX5_isLeftAlone_J99 1) else (fX5_isLeftAlone_J99 0)) = _
      rw [if_neg e]; rfl
  by_cases h7 : k = 7
  · subst h7
    have hform : fX5_isLeftAlone g 7 x y n2 w2 = ((fX5_isNumber_ g y 0 n2 w2).bind fun (o_13 : Int32) => (if o_13 = 0 then (if x = y then (fX5_isLeftAlone_J82) else (fX5_isLeftAlone_J87 0)) else (fX5_isLeftAlone_J82))) := rfl
    rw [pv_isNumber_ hN2 hN4 hN hg hy, Option.bind_some] at hform
    by_cases hm : (pv_nm g w2 y && decide (pv_nv g w2 y = 0)) = true
    · refine ⟨true, ?_, fun _ => pv_al_y hm fun ex => ⟨rfl, by first | exact Int32.or_zero | exact Int32.or_zero _⟩⟩
      rw [hform, hm]; rfl
    · have hm : (pv_nm g w2 y && decide (pv_nv g w2 y = 0)) = false := by simpa using hm
      rw [hm, if_pos (by decide)] at hform
      by_cases e : x = y
      · refine ⟨true, ?_, fun _ => pv_al_e e fun ex => ⟨rfl, by first | exact Int32.or_self | exact Int32.or_self _⟩⟩
        rw [hform, if_pos e]; rfl
      · refine ⟨false, ?_, fun h => by cases h⟩
        rw [hform, if_neg e]; rfl
  by_cases h8 : k = 8
  · subst h8; exact ⟨_, key 0, fun h => pv_al_y h fun ex => ⟨rfl, by first | exact Int32.xor_zero | exact Int32.xor_zero _⟩⟩
  by_cases h9 : k = 9
  · subst h9; exact ⟨_, key 0, fun h => pv_al_y h fun ex => ⟨rfl, by first | exact Int32.shiftLeft_zero | exact Int32.shiftLeft_zero _⟩⟩
  by_cases h10 : k = 10
  · subst h10; exact ⟨_, key 0, fun h => pv_al_y h fun ex => ⟨rfl, by first | exact Int32.shiftRight_zero | exact Int32.shiftRight_zero _⟩⟩
  refine ⟨false, ?_, fun h => by cases h⟩
  unfold fX5_isLeftAlone
  rw [if_neg h1, if_neg h2, if_neg h3, if_neg h4, if_neg h5, if_neg h6, if_neg h7, if_neg h8, if_neg h9, if_neg h10]
  rfl
end NU
