/-! pure side, the allocator 8: a step becomes a line -/
section WRS
variable {n2 gn : Nat → Nat} {x9 g : ST} {a N : Nat}
/-- the register of a value -/
def pa_rg (g : ST) : Int32 → Int32 := fun v => g 17 (nn v)
/-- a step's values have registers -/
def pa_rgs (x9 : ST) (gn : Nat → Nat) (a : Nat) : Prop :=
  (pu_gw (x9 2 a) = true → ixb (x9 3 a) (gn 17) = true) ∧ (pu_gw (x9 2 a) = false → x9 3 a = -1) ∧ (pu_ul (x9 2 a) = true → ixb (x9 4 a) (gn 17) = true) ∧ (pu_ur (x9 2 a) = true → ixb (x9 5 a) (gn 17) = true)
theorem pa_isIdle (ha : a < N) (hN : N < 100000) (h2 : N ≤ n2 2) (h3 : N ≤ n2 3) (h4 : N ≤ n2 4) (hr : pa_rgs x9 gn a) : fX0_isIdle (pu_I a) n2 x9 gn g = some (if pu_idl (pa_rg g) (pv_S x9 a) = true then 1 else 0) := by
  have hi : ∀ {k}, N ≤ k → ixb (pu_I a) k = true := fun h => (pu_ix (by omega)).mpr (by omega)
  unfold fX0_isIdle
  rw [if_pos (hi h2), pu_nn (show a < 2147483648 by omega)]
  by_cases h25 : x9 2 a = 25
  · have h9 := hr.1 (by rw [h25]; decide)
    have h8 := hr.2.2.1 (by rw [h25]; decide)
    rw [if_pos h25, if_pos (hi h3), if_pos h9, if_pos (hi h4), if_pos h8]
    by_cases e : g 17 (nn (x9 3 a)) = g 17 (nn (x9 4 a))
    · rw [if_pos e, if_pos]
      · rfl
      · show decide (x9 2 a = 25 ∧ g 17 (nn (x9 3 a)) = g 17 (nn (x9 4 a))) = true
        rw [decide_eq_true_iff]
        exact ⟨h25, e⟩
    · rw [if_neg e, if_neg]
      · rfl
      · show ¬ decide (x9 2 a = 25 ∧ g 17 (nn (x9 3 a)) = g 17 (nn (x9 4 a))) = true
        rw [decide_eq_true_iff]
        exact fun h => e h.2
  · rw [if_neg h25, if_neg]
    · rfl
    · show ¬ decide (x9 2 a = 25 ∧ g 17 (nn (x9 3 a)) = g 17 (nn (x9 4 a))) = true
      rw [decide_eq_true_iff]
      exact fun h => h25 h.1
theorem pa_writeStep {c9 : ST} {cn : Nat → Nat} {K R : Nat} (ha : a < N) (hN : N < 100000) (h2 : N ≤ n2 2) (h3 : N ≤ n2 3) (h4 : N ≤ n2 4) (h5 : N ≤ n2 5) (hr : pa_rgs x9 gn a) (hc : c9 0 0 = pu_I K) (hR : pv_sR cn R) (hKR : K ≤ R) (hR2 : R < 100000) :
    ∃ c9' cn' R', fX0_writeStep cn c9 (pu_I a) n2 x9 gn g = some (c9', cn') ∧ c9' 0 0 = pu_I (K + 1) ∧ pv_S c9' K = pu_rns (pa_rg g) (pv_S x9 a) ∧ (∀ r i, r ≠ 0 → i < K → c9' r i = c9 r i) ∧ pv_sR cn' R' ∧ K + 1 ≤ R' ∧ (R' = R ∨ R' = K + K / 2 + 1) := by
  have hi : ∀ {k}, N ≤ k → ixb (pu_I a) k = true := fun h => (pu_ix (by omega)).mpr (by omega)
  have han : nn (pu_I a) = a := pu_nn (by omega)
  obtain ⟨r1, r2, r3, r4⟩ := hr
  obtain ⟨c9', cn', R', e1, e2, _, ⟨e3, e4, e5, e6, _⟩, e7, _, e8, e9, e10, _⟩ := pv_add9 (w2 := c9) (n2 := cn) hc hR hKR hR2 (x9 2 a) (if pu_gw (x9 2 a) = true then pa_rg g (x9 3 a) else x9 3 a) (if pu_ul (x9 2 a) = true then pa_rg g (x9 4 a) else x9 4 a) (if pu_ur (x9 2 a) = true then pa_rg g (x9 5 a) else x9 5 a)
  refine ⟨c9', cn', R', ?_, e2, ?_, e7, e8, e9, e10⟩
  · have hJ109 : fX0_writeStep_J109 cn c9 (pu_I a) x9 (if pu_gw (x9 2 a) = true then pa_rg g (x9 3 a) else x9 3 a) (if pu_ul (x9 2 a) = true then pa_rg g (x9 4 a) else x9 4 a) (if pu_ur (x9 2 a) = true then pa_rg g (x9 5 a) else x9 5 a) = some (c9', cn') := by
      unfold fX0_writeStep_J109
      rw [han, e1]
      rfl
    have hJ76 : fX0_writeStep_J76 cn c9 (pu_I a) n2 x9 gn g (if pu_gw (x9 2 a) = true then pa_rg g (x9 3 a) else x9 3 a) (if pu_ul (x9 2 a) = true then pa_rg g (x9 4 a) else x9 4 a) = some (c9', cn') := by
      unfold fX0_writeStep_J76
      rw [han, pv_ur, Option.bind_some]
      by_cases c : pu_ur (x9 2 a) = true
      · rw [if_neg (show ¬ pv_b (pu_ur (x9 2 a)) = 0 by rw [c]; decide), if_pos (hi h5), if_pos (r4 c)]
        rw [if_pos c] at hJ109
        exact hJ109
      · have c' : pu_ur (x9 2 a) = false := by
          cases h : pu_ur (x9 2 a) with
          | true => exact absurd h c
          | false => rfl
        rw [if_pos (show pv_b (pu_ur (x9 2 a)) = 0 by rw [c']; decide), if_pos (hi h5)]
        rw [if_neg c] at hJ109
        exact hJ109
    have hJ43 : fX0_writeStep_J43 cn c9 (pu_I a) n2 x9 gn g (if pu_gw (x9 2 a) = true then pa_rg g (x9 3 a) else x9 3 a) = some (c9', cn') := by
      unfold fX0_writeStep_J43
      rw [han, pv_ul, Option.bind_some]
      by_cases c : pu_ul (x9 2 a) = true
      · rw [if_neg (show ¬ pv_b (pu_ul (x9 2 a)) = 0 by rw [c]; decide), if_pos (hi h4), if_pos (r3 c)]
        rw [if_pos c] at hJ76
        exact hJ76
      · have c' : pu_ul (x9 2 a) = false := by
          cases h : pu_ul (x9 2 a) with
          | true => exact absurd h c
          | false => rfl
        rw [if_pos (show pv_b (pu_ul (x9 2 a)) = 0 by rw [c']; decide), if_pos (hi h4)]
        rw [if_neg c] at hJ76
        exact hJ76
    unfold fX0_writeStep
    rw [if_pos (hi h2), if_pos (hi h3), han]
    by_cases c : pu_gw (x9 2 a) = true
    · rw [if_pos c] at hJ43
      rw [if_pos (show (0 : Int32) ≤ x9 3 a from Int32.not_lt.mp (pv_ixn (r1 c)).1), if_pos (hi h3), if_pos (r1 c)]
      exact hJ43
    · have c' : pu_gw (x9 2 a) = false := by
        cases h : pu_gw (x9 2 a) with
        | true => exact absurd h c
        | false => rfl
      rw [if_neg c, r2 c'] at hJ43
      rw [r2 c', if_neg (show ¬ (0 : Int32) ≤ -1 by decide)]
      exact hJ43
  · show (c9' 2 K, c9' 3 K, c9' 4 K, c9' 5 K) = _
    rw [e3, e4, e5, e6]
    rfl
end WRS
