/-! pure side, the allocator 11: how many lines a block's end has -/
section ENL
variable {fw g : ST} {ln : Nat → Nat} {G : pu_Flow} {b : Nat}
theorem pa_endLines (hb : b < 60) {v : Int32} (hG : (G b).2.2 = (fw 8 b, v, fw 10 b, fw 11 b)) (hkd : fw 8 b = 22 ∨ fw 8 b = 23 ∨ fw 8 b = 24) : fX0_endLines (pu_I b) fw = some (pu_I (pa_el G ln b).length) := by
  have hbx : ixb (pu_I b) 60 = true := (pu_ix (by omega)).mpr hb
  have hbn : nn (pu_I b) = b := pu_nn (by omega)
  have hld : fX1_leads fw (pu_I b) (pu_I b + 1) = some (if fw 10 b = pu_I (b + 1) ∨ fw 11 b = pu_I (b + 1) then 1 else 0) := by
    unfold fX1_leads
    rw [if_pos hbx, hbn, pu_su]
    by_cases h1 : fw 10 b = pu_I (b + 1)
    · rw [if_pos h1, if_pos (Or.inl h1)]
      rfl
    · rw [if_neg h1, if_pos hbx]
      by_cases h2 : fw 11 b = pu_I (b + 1)
      · rw [if_pos h2, if_pos (Or.inr h2)]
        rfl
      · rw [if_neg h2, if_neg (fun h : fw 10 b = pu_I (b + 1) ∨ fw 11 b = pu_I (b + 1) => h.elim h1 h2)]
        rfl
  unfold fX0_endLines pa_el
  rw [hG]
  dsimp only
  rw [if_pos hbx, hbn, hld]
  by_cases h22 : fw 8 b = 22
  · rw [if_pos h22, if_pos h22, if_pos hbx, pu_su]
    by_cases hn : fw 10 b = pu_I (b + 1)
    · rw [if_pos hn, if_pos hn]
      rfl
    · rw [if_neg hn, if_neg hn]
      rfl
  rw [if_neg h22, if_neg h22, if_pos hbx]
  by_cases h24 : fw 8 b = 24
  · rw [if_neg (by rw [h24]; decide), if_pos h24]
    rfl
  have h23 : fw 8 b = 23 := by
    rcases hkd with h | h | h
    · exact absurd h h22
    · exact h
    · exact absurd h h24
  rw [if_pos h23, if_neg h24, Option.bind_some]
  by_cases hn : fw 11 b = pu_I (b + 1)
  · rw [if_pos hn, if_pos (Or.inr hn), if_neg (show ¬ (1 : Int32) = 0 by decide)]
    rfl
  rw [if_neg hn]
  by_cases hn1 : fw 10 b = pu_I (b + 1)
  · rw [if_pos hn1, if_pos (Or.inl hn1), if_neg (show ¬ (1 : Int32) = 0 by decide)]
    rfl
  rw [if_neg hn1, if_neg (fun h : fw 10 b = pu_I (b + 1) ∨ fw 11 b = pu_I (b + 1) => h.elim hn1 hn), if_pos rfl]
  rfl
end ENL
