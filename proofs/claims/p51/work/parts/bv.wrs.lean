/-! pure side, the allocator 8: a step becomes a line -/
section WRS
variable {n2 gn : Nat → Nat} {x9 g : ST} {a N : Nat}
/-- the register of a value -/
def pa_rg (g : ST) : Int32 → Int32 := fun v => g 17 (nn v)
/-- a step's values have registers -/
def pa_rgs (x9 : ST) (gn : Nat → Nat) (a : Nat) : Prop :=
  (pu_gw (x9 2 a) = true → ixb (x9 3 a) (gn 17) = true) ∧ (pu_gw (x9 2 a) = false → x9 3 a = -1) ∧ (pu_ul (x9 2 a) = true → ixb (x9 4 a) (gn 17) = true) ∧ (pu_ur (x9 2 a) = true → ixb (x9 5 a) (gn 17) = true)
theorem pa_isIdle (ha : a < N) (hN : N < 100000) (h2 : N ≤ n2 2) (h3 : N ≤ n2 3) (h4 : N ≤ n2 4) (hr : pa_rgs x9 gn a) : fX0_isIdle (pu_I a) n2 x9 gn g = some (if pu_idl (pa_rg g) (pv_S x9 a) = true then 1 else 0) := by
  have hi : ∀ {k}, N ≤ k → ixb (pu_I a) k = true := fun h => (pu_ix (by omega)).mpr (by omega)
  unfold fX0_isIdle
  rw [if_pos (hi h2), pu_nn (show a < 2147483648 by omega)]
  by_cases h25 : x9 2 a = 25
  · have h9 := hr.1 (by rw [h25]; decide)
    have h8 := hr.2.2.1 (by rw [h25]; decide)
    rw [if_pos h25, if_pos (hi h3), if_pos h9, if_pos (hi h4), if_pos h8]
    by_cases e : g 17 (nn (x9 3 a)) = g 17 (nn (x9 4 a))
    · rw [if_pos e, if_pos]
      · rfl
      · show decide (x9 2 a = 25 ∧ g 17 (nn (x9 3 a)) = g 17 (nn (x9 4 a))) = true
        rw [decide_eq_true_iff]
        exact ⟨h25, e⟩
    · rw [if_neg e, if_neg]
      · rfl
      · show ¬ decide (x9 2 a = 25 ∧ g 17 (nn (x9 3 a)) = g 17 (nn (x9 4 a))) = true
        rw [decide_eq_true_iff]
        exact fun h => e h.2
  · rw [if_neg h25, if_neg]
    · rfl
    · show ¬ decide (x9 2 a = 25 ∧ g 17 (nn (x9 3 a)) = g 17 (nn (x9 4 a))) = true
      rw [decide_eq_true_iff]
      exact fun h => h25 h.1
end WRS
