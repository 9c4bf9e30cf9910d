/-! pure side, the allocator 7: lines, one block behind the other -/
section LAY
variable {G : pu_Flow} {ln : Nat → Nat} {C : Nat → pu_Stp} {B : Nat}
/-- the lines of a block's end -/
def pa_el (G : pu_Flow) (ln : Nat → Nat) (b : Nat) : List pu_Stp :=
  if (G b).2.2.1 = 22 then (if (G b).2.2.2.2.1 = pu_I (b + 1) then [] else [(22, -1, pu_I (ln (nn (G b).2.2.2.2.1)), -1)])
  else if (G b).2.2.1 = 24 then [(24, -1, (G b).2.2.2.1, -1)]
  else if (G b).2.2.2.2.2 = pu_I (b + 1) then [(23, -1, (G b).2.2.2.1, pu_I (ln (nn (G b).2.2.2.2.1)))]
  else if (G b).2.2.2.2.1 = pu_I (b + 1) then [(28, -1, (G b).2.2.2.1, pu_I (ln (nn (G b).2.2.2.2.2)))]
  else [(23, -1, (G b).2.2.2.1, pu_I (ln (nn (G b).2.2.2.2.1))), (22, -1, pu_I (ln (nn (G b).2.2.2.2.2)), -1)]
theorem pa_lay (hB : B ≤ 60) (hln : ∀ b, b < B → ln (b + 1) = ln b + (G b).2.1.length + (pa_el G ln b).length) (hC : ∀ b, b < B → ∀ j s, ((G b).2.1 ++ pa_el G ln b)[j]? = some s → C (ln b + j) = s)
    (hkd : ∀ b, b < B → (G b).2.2.1 = 22 ∨ (G b).2.2.1 = 23 ∨ (G b).2.2.1 = 24) (hsm : ∀ b, ln b < 2147483648) : pu_lay G (fun b => b < B) C ln := by
  intro b hb
  have hE : ∀ j s, (pa_el G ln b)[j]? = some s → C (ln b + (G b).2.1.length + j) = s := fun j s h => by
    have h9 := hC b hb ((G b).2.1.length + j) s (by rw [List.getElem?_append_right (by omega), show (G b).2.1.length + j - (G b).2.1.length = j by omega]; exact h)
    rw [← h9, Nat.add_assoc]
  have hl := hln b hb
  refine ⟨fun j s h => hC b hb j s ?_, hkd b hb, fun h22 => ?_, fun h24 => ?_, fun h23 => ?_⟩
  · have hj : j < (G b).2.1.length := by
      by_cases hj : j < (G b).2.1.length
      · exact hj
      · rw [List.getElem?_eq_none (by omega)] at h; cases h
    rw [List.getElem?_append_left hj]
    exact h
  · unfold pa_el at hE hl
    rw [if_pos h22] at hE hl
    by_cases hn : (G b).2.2.2.2.1 = pu_I (b + 1)
    · rw [if_pos hn] at hl
      exact Or.inl ⟨by rw [hn, pu_nn (by omega)], hl⟩
    · rw [if_neg hn] at hE
      have h9 := hE 0 _ rfl
      rw [Nat.add_zero] at h9
      rw [h9]
      exact Or.inr ⟨rfl, pu_nn (hsm _)⟩
  · unfold pa_el at hE
    rw [if_neg (by rw [h24]; decide), if_pos h24] at hE
    have h9 := hE 0 _ rfl
    rw [Nat.add_zero] at h9
    rw [h9]
    exact ⟨rfl, rfl⟩
  · unfold pa_el at hE hl
    rw [if_neg (by rw [h23]; decide), if_neg (by rw [h23]; decide)] at hE hl
    by_cases h2 : (G b).2.2.2.2.2 = pu_I (b + 1)
    · rw [if_pos h2] at hE hl
      have h9 := hE 0 _ rfl
      rw [Nat.add_zero] at h9
      rw [h9]
      exact ⟨rfl, Or.inl ⟨rfl, pu_nn (hsm _), Or.inl ⟨by rw [h2, pu_nn (by omega)], hl⟩⟩⟩
    · rw [if_neg h2] at hE hl
      by_cases h1 : (G b).2.2.2.2.1 = pu_I (b + 1)
      · rw [if_pos h1] at hE hl
        have h9 := hE 0 _ rfl
        rw [Nat.add_zero] at h9
        rw [h9]
        exact ⟨rfl, Or.inr ⟨rfl, pu_nn (hsm _), by rw [h1, pu_nn (by omega)], hl⟩⟩
      · rw [if_neg h1] at hE
        have h9 := hE 0 _ rfl
        have h8 := hE 1 _ rfl
        rw [Nat.add_zero] at h9
        rw [h9, h8]
        exact ⟨rfl, Or.inl ⟨rfl, pu_nn (hsm _), Or.inr ⟨rfl, pu_nn (hsm _)⟩⟩⟩
end LAY
