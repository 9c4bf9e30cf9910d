/-! pure side 14: lines of code -/
def pu_crn (C : Nat → pu_Stp) (call : pu_Call) (ar : List Int32) : Nat → Nat → pu_SW → Option pu_Res
  | 0, _, _ => none
  | n + 1, i, σ =>
    if (C i).1 = 22 then pu_crn C call ar n (nn (C i).2.2.1) σ
    else if (C i).1 = 23 then (if σ.1 (C i).2.2.1 = 0 then pu_crn C call ar n (i + 1) σ else pu_crn C call ar n (nn (C i).2.2.2) σ)
    else if (C i).1 = 28 then (if σ.1 (C i).2.2.1 = 0 then pu_crn C call ar n (nn (C i).2.2.2) σ else pu_crn C call ar n (i + 1) σ)
    else if (C i).1 = 24 then some (pu_rq σ.2.2.1, σ.1 (C i).2.2.1, σ.2.1)
    else (pu_stpW call ar (C i) σ).bind fun o => Sum.elim some (fun τ => pu_crn C call ar n (i + 1) τ) o
/-- the lines of blocks, one block behind the other -/
def pu_lay (F : pu_Flow) (L : Nat → Prop) (C : Nat → pu_Stp) (ln : Nat → Nat) : Prop := ∀ b, L b →
  (∀ j s, (F b).2.1[j]? = some s → C (ln b + j) = s) ∧
  ((F b).2.2.1 = 22 ∨ (F b).2.2.1 = 23 ∨ (F b).2.2.1 = 24) ∧
  ((F b).2.2.1 = 22 → (nn (F b).2.2.2.2.1 = b + 1 ∧ ln (b + 1) = ln b + (F b).2.1.length) ∨ ((C (ln b + (F b).2.1.length)).1 = 22 ∧ nn (C (ln b + (F b).2.1.length)).2.2.1 = ln (nn (F b).2.2.2.2.1))) ∧
  ((F b).2.2.1 = 24 → (C (ln b + (F b).2.1.length)).1 = 24 ∧ (C (ln b + (F b).2.1.length)).2.2.1 = (F b).2.2.2.1) ∧
  ((F b).2.2.1 = 23 → (C (ln b + (F b).2.1.length)).2.2.1 = (F b).2.2.2.1 ∧
    (((C (ln b + (F b).2.1.length)).1 = 23 ∧ nn (C (ln b + (F b).2.1.length)).2.2.2 = ln (nn (F b).2.2.2.2.1) ∧ ((nn (F b).2.2.2.2.2 = b + 1 ∧ ln (b + 1) = ln b + (F b).2.1.length + 1) ∨ ((C (ln b + (F b).2.1.length + 1)).1 = 22 ∧ nn (C (ln b + (F b).2.1.length + 1)).2.2.1 = ln (nn (F b).2.2.2.2.2)))) ∨
     ((C (ln b + (F b).2.1.length)).1 = 28 ∧ nn (C (ln b + (F b).2.1.length)).2.2.2 = ln (nn (F b).2.2.2.2.2) ∧ nn (F b).2.2.2.2.1 = b + 1 ∧ ln (b + 1) = ln b + (F b).2.1.length + 1)))
section CR
variable {F : pu_Flow} {L : Nat → Prop} {C : Nat → pu_Stp} {ln : Nat → Nat} {call : pu_Call} {ar : List Int32}
theorem pu_crn_le : ∀ (n k i : Nat) (σ : pu_SW) (r : pu_Res), pu_crn C call ar n i σ = some r → pu_crn C call ar (n + k) i σ = some r := by
  intro n
  induction n with
  | zero => intro k i σ r h; cases h
  | succ n ih =>
    intro k i σ r h
    rw [Nat.succ_add]
    unfold pu_crn at h ⊢
    by_cases h1 : (C i).1 = 22
    · rw [if_pos h1] at h ⊢; exact ih _ _ _ _ h
    rw [if_neg h1] at h ⊢
    by_cases h2 : (C i).1 = 23
    · rw [if_pos h2] at h ⊢
      by_cases h0 : σ.1 (C i).2.2.1 = 0
      · rw [if_pos h0] at h ⊢; exact ih _ _ _ _ h
      · rw [if_neg h0] at h ⊢; exact ih _ _ _ _ h
    rw [if_neg h2] at h ⊢
    by_cases h3 : (C i).1 = 28
    · rw [if_pos h3] at h ⊢
      by_cases h0 : σ.1 (C i).2.2.1 = 0
      · rw [if_pos h0] at h ⊢; exact ih _ _ _ _ h
      · rw [if_neg h0] at h ⊢; exact ih _ _ _ _ h
    rw [if_neg h3] at h ⊢
    by_cases h4 : (C i).1 = 24
    · rw [if_pos h4] at h ⊢; exact h
    rw [if_neg h4] at h ⊢
    obtain ⟨o, ho, h⟩ := bnd9 h
    rw [ho]
    cases o with
    | inl z => exact h
    | inr τ => exact ih _ _ _ _ h
theorem pu_kw_ne {k : Int32} (h : pu_kw k) : k ≠ 22 ∧ k ≠ 23 ∧ k ≠ 28 ∧ k ≠ 24 := by
  refine ⟨?_, ?_, ?_, ?_⟩ <;> (intro c; subst c; revert h; unfold pu_kw; decide)
theorem pu_cr_step {n i : Nat} {σ : pu_SW} (h : pu_kw (C i).1) : pu_crn C call ar (n + 1) i σ = (pu_stpW call ar (C i) σ).bind fun o => Sum.elim some (fun τ => pu_crn C call ar n (i + 1) τ) o := by
  have h := pu_kw_ne h
  show (if (C i).1 = 22 then _ else if (C i).1 = 23 then _ else if (C i).1 = 28 then _ else if (C i).1 = 24 then _ else _) = _
  rw [if_neg h.1, if_neg h.2.1, if_neg h.2.2.1, if_neg h.2.2.2]
theorem pu_cr_steps (hK : ∀ b, L b → ∀ s ∈ (F b).2.1, pu_kw s.1) (hl : pu_lay F L C ln) {b : Nat} (hb : L b) : ∀ (l l1 : List pu_Stp) (σ : pu_SW) (o : Sum pu_Res pu_SW), (F b).2.1 = l1 ++ l → pu_stepsW call ar l σ = some o →
    (∃ y, o = .inl y ∧ ∃ n, pu_crn C call ar n (ln b + l1.length) σ = some y) ∨ (∃ τ, o = .inr τ ∧ ∀ m r, pu_crn C call ar m (ln b + (F b).2.1.length) τ = some r → ∃ n, pu_crn C call ar n (ln b + l1.length) σ = some r) := by
  intro l
  induction l with
  | nil =>
    intro l1 σ o h1 h
    cases h
    rw [List.append_nil] at h1
    exact Or.inr ⟨σ, rfl, fun m r hm => ⟨m, by rw [← h1]; exact hm⟩⟩
  | cons s l ih =>
    intro l1 σ o h1 h
    have hm : s ∈ (F b).2.1 := by rw [h1]; exact List.mem_append_right _ List.mem_cons_self
    have hC : C (ln b + l1.length) = s := (hl b hb).1 l1.length s (by rw [h1]; simp)
    have hk := hK b hb s hm
    unfold pu_stepsW at h
    replace h := bnd9 h
    obtain ⟨o1, ho1, h⟩ := h
    cases o1 with
    | inl z =>
      cases h
      refine Or.inl ⟨z, rfl, 1, ?_⟩
      rw [pu_cr_step (by rw [hC]; exact hk), hC, ho1]
      rfl
    | inr τ =>
      have hl2 : (F b).2.1 = (l1 ++ [s]) ++ l := by rw [h1]; simp
      have hlen : ln b + (l1 ++ [s]).length = ln b + l1.length + 1 := by simp [Nat.add_assoc]
      rcases ih (l1 ++ [s]) τ o hl2 h with ⟨y, rfl, n, hn⟩ | ⟨ρ, rfl, hρ⟩
      · refine Or.inl ⟨y, rfl, n + 1, ?_⟩
        rw [pu_cr_step (by rw [hC]; exact hk), hC, ho1]
        rw [hlen] at hn
        exact hn
      · refine Or.inr ⟨ρ, rfl, fun m r hmr => ?_⟩
        obtain ⟨n, hn⟩ := hρ m r hmr
        refine ⟨n + 1, ?_⟩
        rw [pu_cr_step (by rw [hC]; exact hk), hC, ho1]
        rw [hlen] at hn
        exact hn
/-- code does what its blocks do -/
theorem pu_cr_run (hK : ∀ b, L b → ∀ s ∈ (F b).2.1, pu_kw s.1) (hsc : ∀ b c, L b → pu_sc F b c → L c) (hl : pu_lay F L C ln) : ∀ (n b : Nat) (σ : pu_SW) (r : pu_Res), L b → pu_runW F call ar n b σ = some r → ∃ m, pu_crn C call ar m (ln b) σ = some r := by
  intro n
  induction n with
  | zero => intro b σ r _ h; cases h
  | succ n ih =>
    intro b σ r hb h
    unfold pu_runW at h
    replace h := bnd9 h
    obtain ⟨o, ho, h⟩ := h
    unfold pu_blkW at ho
    replace ho := bnd9 ho
    obtain ⟨o1, ho1, ho⟩ := ho
    obtain ⟨_, hkd, h22, h24, h23⟩ := hl b hb
    rcases pu_cr_steps hK hl hb (F b).2.1 [] σ o1 rfl ho1 with ⟨y, rfl, m, hm⟩ | ⟨τ, rfl, hgo⟩
    · cases ho
      cases h
      exact ⟨m, hm⟩
    · have hgo : ∀ m r, pu_crn C call ar m (ln b + (F b).2.1.length) τ = some r → ∃ n, pu_crn C call ar n (ln b) σ = some r := hgo
      have ho : pu_endW (F b).2.2 τ = o := Option.some.inj ho
      unfold pu_endW at ho
      have hjump : ∀ i m r, (C i).1 = 22 → pu_crn C call ar m (nn (C i).2.2.1) τ = some r → pu_crn C call ar (m + 1) i τ = some r := by
        intro i m r hi hm
        show (if (C i).1 = 22 then _ else _) = _
        rw [if_pos hi]
        exact hm
      by_cases c1 : (F b).2.2.1 = 24
      · rw [if_pos c1] at ho
        subst ho
        cases h
        have h9 := h24 c1
        refine hgo 1 _ ?_
        show (if (C (ln b + (F b).2.1.length)).1 = 22 then _ else if (C (ln b + (F b).2.1.length)).1 = 23 then _ else if (C (ln b + (F b).2.1.length)).1 = 28 then _ else if (C (ln b + (F b).2.1.length)).1 = 24 then _ else _) = _
        rw [if_neg (by rw [h9.1]; decide), if_neg (by rw [h9.1]; decide), if_neg (by rw [h9.1]; decide), if_pos h9.1, h9.2]
      · rw [if_neg c1] at ho
        by_cases c23 : (F b).2.2.1 = 23
        · have h9 := h23 c23
          have hgen : ∀ c, o = .inr (c, τ) → pu_sc F b c → ∃ m, pu_crn C call ar m (ln c) τ = some r := by
            intro c hoc hsc9
            rw [hoc] at h
            exact ih c τ r (hsc b c hb hsc9) h
          by_cases c0 : τ.1 (F b).2.2.2.1 = 0
          · rw [if_pos ⟨c23, c0⟩] at ho
            obtain ⟨m, hm⟩ := hgen _ ho.symm ⟨c1, Or.inr ⟨c23, rfl⟩⟩
            rcases h9.2 with ⟨k1, _, k3⟩ | ⟨k1, k2, _, _⟩
            · have hnext : ∃ m2, pu_crn C call ar m2 (ln b + (F b).2.1.length + 1) τ = some r := by
                rcases k3 with ⟨k4, k5⟩ | ⟨k4, k5⟩
                · rw [k4, k5] at hm
                  exact ⟨m, hm⟩
                · exact ⟨m + 1, hjump _ m r k4 (by rw [k5]; exact hm)⟩
              obtain ⟨m2, hm2⟩ := hnext
              refine hgo (m2 + 1) r ?_
              show (if (C (ln b + (F b).2.1.length)).1 = 22 then _ else if (C (ln b + (F b).2.1.length)).1 = 23 then _ else _) = _
              rw [if_neg (by rw [k1]; decide), if_pos k1, h9.1, if_pos c0]
              exact hm2
            · refine hgo (m + 1) r ?_
              show (if (C (ln b + (F b).2.1.length)).1 = 22 then _ else if (C (ln b + (F b).2.1.length)).1 = 23 then _ else if (C (ln b + (F b).2.1.length)).1 = 28 then _ else _) = _
              rw [if_neg (by rw [k1]; decide), if_neg (by rw [k1]; decide), if_pos k1, h9.1, if_pos c0, k2]
              exact hm
          · rw [if_neg (fun c => c0 c.2)] at ho
            obtain ⟨m, hm⟩ := hgen _ ho.symm ⟨c1, Or.inl rfl⟩
            rcases h9.2 with ⟨k1, k2, _⟩ | ⟨k1, _, k3, k4⟩
            · refine hgo (m + 1) r ?_
              show (if (C (ln b + (F b).2.1.length)).1 = 22 then _ else if (C (ln b + (F b).2.1.length)).1 = 23 then _ else _) = _
              rw [if_neg (by rw [k1]; decide), if_pos k1, h9.1, if_neg c0, k2]
              exact hm
            · rw [k3, k4] at hm
              refine hgo (m + 1) r ?_
              show (if (C (ln b + (F b).2.1.length)).1 = 22 then _ else if (C (ln b + (F b).2.1.length)).1 = 23 then _ else if (C (ln b + (F b).2.1.length)).1 = 28 then _ else _) = _
              rw [if_neg (by rw [k1]; decide), if_neg (by rw [k1]; decide), if_pos k1, h9.1, if_neg c0]
              exact hm
        · have c22 : (F b).2.2.1 = 22 := hkd.elim id fun h => h.elim (fun h => absurd h c23) fun h => absurd h c1
          rw [if_neg (fun c => c23 c.1)] at ho
          subst ho
          obtain ⟨m, hm⟩ := ih _ τ r (hsc b _ hb ⟨c1, Or.inl rfl⟩) h
          rcases h22 c22 with ⟨k1, k2⟩ | ⟨k1, k2⟩
          · rw [k1, k2] at hm
            exact hgo m r hm
          · exact hgo (m + 1) r (hjump _ m r k1 (by rw [k2]; exact hm))
end CR
