/-! pure side 15: dominators once more; what may be lifted out of a loop -/
def pu_dom (F : pu_Flow) (B : Nat) (D : Nat → Nat → Prop) : Prop :=
  (∀ c, c < B → c ≠ 0 → ∃ p, p < c ∧ pu_sc F p c) ∧
  (∀ X : Nat → Nat → Prop, (∀ d, X 0 d → d = 0) → (∀ p c d, p < B → c < B → c ≠ 0 → pu_sc F p c → X c d → d = c ∨ X p d) → ∀ c d, c < B → d < B → X c d → D c d)
def pu_lop (F : pu_Flow) (B : Nat) (D : Nat → Nat → Prop) (h : Nat) (Lp : Nat → Prop) : Prop :=
  Lp h ∧ (∀ c, Lp c → c < B ∧ D c h) ∧ (∀ c p, Lp c → c ≠ h → p < B → pu_sc F p c → Lp p) ∧ (∀ p, p < B → pu_sc F p h → D p h → Lp p)
section LP
variable {F : pu_Flow} {B : Nat} {D : Nat → Nat → Prop}
theorem pu_dom_0 (hd : pu_dom F B D) {c : Nat} (hB : 0 < B) (hc : c < B) : D c 0 :=
  hd.2 (fun _ d => d = 0) (fun _ h => h) (fun _ _ _ _ _ _ _ h => Or.inr h) c 0 hc hB rfl
theorem pu_chain (hG : pu_grf F (fun b => b < B) D) (hd : pu_dom F B D) : ∀ (b d e : Nat), b < B → D b d → D b e → D d e ∨ D e d := by
  intro b
  induction b using Nat.strongRecOn with
  | ind b ih =>
    intro d e hb h1 h2
    by_cases c1 : d = b
    · subst c1; exact Or.inl h2
    by_cases c2 : e = b
    · subst c2; exact Or.inr h1
    have hb0 : b ≠ 0 := by
      intro c
      subst c
      have := (hG.2.1 0 d hb h1).1
      omega
    obtain ⟨p, hp, hsc⟩ := hd.1 b hb hb0
    have hpB : p < B := by omega
    exact ih p hp d e hpB (hG.2.2.2.2 p b d hpB hsc h1 c1) (hG.2.2.2.2 p b e hpB hsc h2 c2)
/-- the block ahead of a loop dominates its head -/
theorem pu_ahead (hG : pu_grf F (fun b => b < B) D) (hd : pu_dom F B D) (hB : 0 < B) {h P : Nat} {Lp : Nat → Prop} (hl : pu_lop F B D h Lp) (hP : P < B) (hsP : pu_sc F P h) (hnP : ¬ Lp P) (hon : ∀ p, p < B → pu_sc F p h → ¬ Lp p → p = P) : D h P := by
  have hh := (hl.2.1 h hl.1).1
  refine hd.2 (fun c d => c < B ∧ (D c d ∨ (d = P ∧ D c h))) ?_ ?_ h P hh hP ⟨hh, Or.inr ⟨rfl, hG.2.2.1 h hh⟩⟩
  · rintro d ⟨_, h1 | ⟨rfl, h1⟩⟩
    · have := (hG.2.1 0 d hB h1).1
      omega
    · have h2 := (hG.2.1 0 h hB h1).1
      have h3 : h = 0 := by omega
      subst h3
      exact absurd (hl.2.2.2 d hP hsP (pu_dom_0 hd hB hP)) hnP
  · rintro p c d hp hc hc0 hsc ⟨_, h1 | ⟨rfl, h1⟩⟩
    · by_cases hdc : d = c
      · exact Or.inl hdc
      · exact Or.inr ⟨hp, Or.inl (hG.2.2.2.2 p c d hp hsc h1 hdc)⟩
    · by_cases hch : c = h
      · subst hch
        by_cases hLp : Lp p
        · exact Or.inr ⟨hp, Or.inr ⟨rfl, (hl.2.1 p hLp).2⟩⟩
        · have := hon p hp hsc hLp
          subst this
          exact Or.inr ⟨hp, Or.inl (hG.2.2.1 p hp)⟩
      · exact Or.inr ⟨hp, Or.inr ⟨rfl, hG.2.2.2.2 p c h hp hsc h1 (fun e => hch e.symm)⟩⟩
/-- what dominates a block of a loop and lies outside dominates the head -/
theorem pu_outside (hG : pu_grf F (fun b => b < B) D) (hd : pu_dom F B D) {h : Nat} {Lp : Nat → Prop} (hl : pu_lop F B D h Lp) {d : Nat} (hnd : ¬ Lp d) : ∀ c, Lp c → D c d → D h d := by
  intro c
  induction c using Nat.strongRecOn with
  | ind c ih =>
    intro hc h1
    by_cases hch : c = h
    · subst hch; exact h1
    have hcB := (hl.2.1 c hc).1
    have hc0 : c ≠ 0 := by
      intro e
      subst e
      have h2 := (hG.2.1 0 h hcB (hl.2.1 0 hc).2).1
      exact hch (by omega)
    obtain ⟨p, hp, hsc⟩ := hd.1 c hcB hc0
    have hpB : p < B := by omega
    refine ih p hp (hl.2.2.1 c p hc hch hpB hsc) (hG.2.2.2.2 p c d hpB hsc h1 fun e => hnd (e ▸ hc))
theorem pu_lift_av (hS : pu_ssa F (fun b => b < B) D) (hd : pu_dom F B D) {h P : Nat} {Lp : Nat → Prop} (hl : pu_lop F B D h Lp) (hP : P < B) (hsP : pu_sc F P h) {b : Nat} (hb : Lp b) {l1 l2 : List pu_Stp} (hs : (F b).2.1 = l1 ++ l2) {v : Int32} (hv : pu_av F D b l1 v) (hout : ∀ d, d < B → v ∈ pu_bl F d → ¬ Lp d) : pu_av F D P (F P).2.1 v := by
  have hG := hS.2.1
  have hbB := (hl.2.1 b hb).1
  rcases pu_av_bl hs hv with h1 | ⟨d, h1, h2, h3⟩
  · exact absurd hb (hout b hbB h1)
  · have hdB := pu_dlt hS hbB h2
    have hnd := hout d hdB h3
    have hhd := pu_outside hG hd hl hnd b hb h2
    have hPd := hG.2.2.2.2 P h d hP hsP hhd (fun e => hnd (e ▸ hl.1))
    by_cases e : d = P
    · subst e
      rcases List.mem_append.mp h3 with h | h
      · exact Or.inl h
      · exact Or.inr (Or.inl h)
    · exact Or.inr (Or.inr ⟨d, e, hPd, h3⟩)
end LP
