/-! pure side, stores 26: what all ways into a block bring is there at its head -/
section ON
variable {F : pu_Flow} {B : Nat} {D : Nat → Nat → Prop}
theorem pu_only (hG : pu_grf F (fun b => b < B) D) (hd : pu_dom F B D) {b dx : Nat} (hb : b < B) (hb0 : b ≠ 0) (hx : dx < B) (h : ∀ p, p < B → pu_sc F p b → D p dx ∨ D p b) : D b dx := by
  refine hd.2 (fun c d => c < B ∧ (D c d ∨ (d = dx ∧ D c b))) ?_ ?_ b dx hb hx ⟨hb, Or.inr ⟨rfl, hG.2.2.1 b hb⟩⟩
  · rintro d ⟨h0, h1 | ⟨rfl, h1⟩⟩
    · have := (hG.2.1 0 d h0 h1).1
      omega
    · have := (hG.2.1 0 b h0 h1).1
      omega
  · rintro p c d hp hc hc0 hsc ⟨_, h1 | ⟨rfl, h1⟩⟩
    · by_cases hdc : d = c
      · exact Or.inl hdc
      · exact Or.inr ⟨hp, Or.inl (hG.2.2.2.2 p c d hp hsc h1 hdc)⟩
    · by_cases hcb : c = b
      · subst hcb
        rcases h p hp hsc with h2 | h2
        · exact Or.inr ⟨hp, Or.inl h2⟩
        · exact Or.inr ⟨hp, Or.inr ⟨rfl, h2⟩⟩
      · exact Or.inr ⟨hp, Or.inr ⟨rfl, hG.2.2.2.2 p c b hp hsc h1 fun e => hcb e.symm⟩⟩
/-- a value that each way brings, but those on which the phi itself comes round, is there at the head -/
theorem pu_only_av (hS : pu_ssa F (fun b => b < B) D) (hd : pu_dom F B D) {b : Nat} (hb : b < B) (hb0 : b ≠ 0) {x gv : Int32} (hgv : gv ∈ pu_bl F b) (h : ∀ p, p < B → pu_sc F p b → pu_av F D p (F p).2.1 x ∨ pu_av F D p (F p).2.1 gv) {p0 : Nat} (hp0 : p0 < b) (hs0 : pu_sc F p0 b) (hx0 : pu_av F D p0 (F p0).2.1 x) : pu_av F D b [] x := by
  have hG := hS.2.1
  have hp0B : p0 < B := by omega
  have hin : ∀ p v, p < B → pu_av F D p (F p).2.1 v → ∃ d, D p d ∧ d < B ∧ v ∈ pu_bl F d := by
    intro p v hp hv
    rcases pu_av_bl (l2 := []) (List.append_nil _).symm hv with h1 | ⟨d, h1, h2, h3⟩
    · exact ⟨p, hG.2.2.1 p hp, hp, h1⟩
    · exact ⟨d, h2, pu_dlt hS hp h2, h3⟩
  obtain ⟨dx, x1, x2, x3⟩ := hin p0 x hp0B hx0
  have hdx := (hG.2.1 p0 dx hp0B x1).1
  have hD : D b dx := pu_only hG hd hb hb0 x2 fun p hp hs => by
    rcases h p hp hs with h1 | h1
    · obtain ⟨d, d1, d2, d3⟩ := hin p x hp h1
      have := hS.2.2.2.2.1.2 d dx x d2 x2 d3 x3
      rw [this] at d1
      exact Or.inl d1
    · obtain ⟨d, d1, d2, d3⟩ := hin p gv hp h1
      have := hS.2.2.2.2.1.2 d b gv d2 hb d3 hgv
      rw [this] at d1
      exact Or.inr d1
  exact Or.inr (Or.inr ⟨dx, by omega, hD, x3⟩)
end ON
