/-! pure side, the maker 27: what waits where a block begins was made in blocks that dominate it -/
theorem pt_T_mem {P : ST} {a k : Nat} : ∀ i, k ∈ pt_T P a i → a ≤ k ∧ k < i ∧ pt_gv (P 9 k) = true := by
  intro i
  induction i with
  | zero => intro h; cases h
  | succ i ih =>
    intro h
    by_cases hi : i < a
    · rw [pt_T_a P a _ (by omega)] at h; cases h
    · rw [pt_T_s (by omega)] at h
      unfold pt_nx at h
      by_cases hg : pt_gv (P 9 i) = true
      · rw [if_pos hg] at h
        rcases List.mem_cons.mp h with rfl | h
        · exact ⟨by omega, Nat.lt_succ_self _, hg⟩
        · have h9 := ih (List.mem_of_mem_drop h)
          exact ⟨h9.1, by omega, h9.2.2⟩
      · rw [if_neg hg] at h
        have h9 := ih (List.mem_of_mem_drop h)
        exact ⟨h9.1, by omega, h9.2.2⟩
theorem pt_T_back {P : ST} {a k i : Nat} (ha : a ≤ i) : ∀ i', i ≤ i' → k ∈ pt_T P a i' → k ∈ pt_T P a i ∨ i ≤ k := by
  intro i'
  induction i' with
  | zero => intro h hk; rw [show i = 0 by omega]; exact Or.inl hk
  | succ j ih =>
    intro h hk
    by_cases e : i = j + 1
    · rw [e]; exact Or.inl hk
    · rw [pt_T_s (by omega)] at hk
      unfold pt_nx at hk
      by_cases hg : pt_gv (P 9 j) = true
      · rw [if_pos hg] at hk
        rcases List.mem_cons.mp hk with rfl | hk
        · exact Or.inr (by omega)
        · exact ih (by omega) (List.mem_of_mem_drop hk)
      · rw [if_neg hg] at hk
        exact ih (by omega) (List.mem_of_mem_drop hk)
/-- where a block begins and ends in the text, also one without ops -/
def pt_psn (po : Nat → Int32) (w : ST) (fo : Nat → Nat) (b : Nat) : Nat := if po b < 0 then fo (nn (w 10 b)) else fo b
def pt_pen (po : Nat → Int32) (w : ST) (fo ot : Nat → Nat) (b : Nat) : Nat := if po b < 0 then fo (nn (w 10 b)) else ot b
/-- where a cut leads -/
def pt_go (P : ST) (a0 a1 j s : Nat) : Prop := (P 9 j = 35 ∧ s = j) ∨ ((P 9 j = 33 ∨ P 9 j = 34) ∧ s = j + 1) ∨ ((P 9 j = 22 ∨ P 9 j = 33 ∨ P 9 j = 34) ∧ pt_lab P a0 a1 j s)
section OD
variable {P w : ST} {a0 a1 B : Nat} {po : Nat → Int32} {fo ot pj : Nat → Nat}
theorem pt_ld_c (hB : B ≤ 60) (hbk : pt_bk P a0 a1 w po B fo ot pj) {x : Int32} {s c : Nat} (hc : c < B) (h : pt_ld w po B fo x s) (hx : x = pu_I c) : pt_psn po w fo c = s := by
  obtain ⟨t, t1, t2, t3, t4⟩ := h
  unfold pt_psn
  rcases t4 with h | ⟨z, z1, z2, z3, z4⟩
  · have : c = t := pu_inj (by omega) (by omega) (hx.symm.trans h)
    rw [this, if_neg t2]
    exact t3
  · have : c = z := pu_inj (by omega) (by omega) (hx.symm.trans z3)
    rw [this, if_pos z2, z4, pu_nn (by omega)]
    exact t3
theorem pt_neg {x : Int32} {c : Nat} (hx : x < 0) (hc : c < 2147483648) : ¬ x = pu_I c := fun e => by
  rw [e] at hx
  exact pu_ge hc hx
theorem pt_edge (hB : B ≤ 60) (hbk : pt_bk P a0 a1 w po B fo ot pj) {b c : Nat} (hb : b < B) (hc : c < B) (he : pv_eg w b c) : (po b < 0 ∧ pt_psn po w fo c = pt_psn po w fo b ∧ ¬ po c < 0) ∨ (¬ po b < 0 ∧ pt_go P a0 a1 (pj b) (pt_psn po w fo c)) := by
  obtain ⟨b1, b2, b3, _⟩ := id hbk
  by_cases hn : po b < 0
  · obtain ⟨_, _, _, h11, t, t1, t2, t3⟩ := b2 b hb hn
    have hct : c = t := by
      rcases he with h | h
      · exact pu_inj (by omega) (by omega) (h.symm.trans t3)
      · exact absurd h (pt_neg h11 (by omega))
    refine Or.inl ⟨hn, ?_, by rw [hct]; exact t2⟩
    unfold pt_psn
    rw [if_pos hn, hct, if_neg t2, t3, pu_nn (by omega)]
  · obtain ⟨p1, p2, p3, p4, p5, h1, h2, h3, h4, h5⟩ := b1 b hb hn
    refine Or.inr ⟨hn, ?_⟩
    rcases p3 with (h | h | h | h) | h
    · obtain ⟨_, k11, s, k2, k3⟩ := h2 h
      rcases he with e | e
      · rw [pt_ld_c hB hbk hc k3 e]
        exact Or.inr (Or.inr ⟨Or.inl h, k2⟩)
      · exact absurd e (pt_neg k11 (by omega))
    · obtain ⟨_, s, k2, k3, k4⟩ := h3 h
      rcases he with e | e
      · rw [pt_ld_c hB hbk hc k3 e]
        exact Or.inr (Or.inl ⟨Or.inl h, rfl⟩)
      · rw [pt_ld_c hB hbk hc k4 e]
        exact Or.inr (Or.inr ⟨Or.inr (Or.inl h), k2⟩)
    · obtain ⟨_, s, k2, k3, k4⟩ := h4 h
      rcases he with e | e
      · rw [pt_ld_c hB hbk hc k3 e]
        exact Or.inr (Or.inr ⟨Or.inr (Or.inr h), k2⟩)
      · rw [pt_ld_c hB hbk hc k4 e]
        exact Or.inr (Or.inl ⟨Or.inr h, rfl⟩)
    · obtain ⟨_, k10, k11⟩ := h5 h
      rcases he with e | e
      · exact absurd e (pt_neg k10 (by omega))
      · exact absurd e (pt_neg k11 (by omega))
    · obtain ⟨_, k11, k3⟩ := h1 h
      rcases he with e | e
      · rw [pt_ld_c hB hbk hc (pt_ldn_ld k3) e]
        exact Or.inl ⟨h, rfl⟩
      · exact absurd e (pt_neg k11 (by omega))
/-- what waits at a leap and at its label is the same -/
def pt_Tc (P : ST) (a0 a1 : Nat) : Prop := ∀ i s, a0 ≤ i → i < a1 → (P 9 i = 22 ∨ P 9 i = 33 ∨ P 9 i = 34) → pt_lab P a0 a1 i s → pt_T P a0 s = pt_T P a0 (i + 1)
theorem pt_to_leap {j : Nat} (h : ¬ P 9 j = 35) : pt_to P j = j + 1 := if_neg h
theorem pt_to_lab {j : Nat} (h : P 9 j = 35) : pt_to P j = j := if_pos h
theorem pt_T_edge (hB : B ≤ 60) (hbk : pt_bk P a0 a1 w po B fo ot pj) (hT : pt_Tc P a0 a1) {b c : Nat} (hb : b < B) (hc : c < B) (he : pv_eg w b c) : pt_T P a0 (pt_psn po w fo c) = pt_T P a0 (pt_pen po w fo ot b) := by
  rcases pt_edge hB hbk hb hc he with ⟨h1, h2, _⟩ | ⟨h1, h2⟩
  · rw [h2]
    unfold pt_psn pt_pen
    rw [if_pos h1, if_pos h1]
  · obtain ⟨p1, p2, p3, p4, p5, _⟩ := hbk.1 b hb h1
    have hpe : pt_pen po w fo ot b = pt_to P (pj b) := by
      unfold pt_pen
      rw [if_neg h1, p5]
    rw [hpe]
    rcases h2 with ⟨k1, k2⟩ | ⟨k1, k2⟩ | ⟨k1, k2⟩
    · rw [k2, pt_to_lab k1]
    · rw [k2, pt_to_leap (by rcases k1 with h | h <;> rw [h] <;> decide)]
    · rw [pt_to_leap (by rcases k1 with h | h | h <;> rw [h] <;> decide)]
      exact hT _ _ p1 p2 k1 k2
/-- the flow's ways are those of the rows -/
def pt_sw (F : pu_Flow) (w : ST) (B : Nat) : Prop := (∀ p c, p < B → c < B → (pu_sc F p c ↔ pv_eg w p c)) ∧ (∀ p c, p < B → pu_sc F p c → c < B)
theorem pt_psn_le (hbk : pt_bk P a0 a1 w po B fo ot pj) (hB : B ≤ 60) {b : Nat} (hb : b < B) : a0 ≤ pt_psn po w fo b ∧ (¬ po b < 0 → pt_psn po w fo b ≤ ot b) := by
  obtain ⟨b1, b2, b3, _⟩ := id hbk
  have key : ∀ t, t < B → ¬ po t < 0 → a0 ≤ fo t ∧ fo t ≤ ot t := by
    intro t ht hn
    obtain ⟨p1, p2, p3, p4, p5, _⟩ := b1 t ht hn
    have h9 := pt_fr_le (P := P) (a := a0) (pj t) p1
    rw [p4, p5]
    refine ⟨h9.1, ?_⟩
    unfold pt_to
    by_cases h : P 9 (pj t) = 35
    · rw [if_pos h]; exact h9.2
    · rw [if_neg h]; omega
  unfold pt_psn
  by_cases hn : po b < 0
  · obtain ⟨_, _, _, _, t, t1, t2, t3⟩ := b2 b hb hn
    rw [if_pos hn, t3, pu_nn (by omega)]
    exact ⟨(key t t1 t2).1, fun h => absurd hn h⟩
  · rw [if_neg hn]
    exact ⟨(key b hb hn).1, fun _ => (key b hb hn).2⟩
theorem pt_wait_dom {F : pu_Flow} {D : Nat → Nat → Prop} (hB : B ≤ 60) (hB0 : 0 < B) (hbk : pt_bk P a0 a1 w po B fo ot pj) (hT : pt_Tc P a0 a1) (hF : pt_sw F w B) (hG : pu_grf F (fun b => b < B) D) (hd : pu_dom F B D) {c k : Nat} (hc : c < B) (hk : k ∈ pt_T P a0 (pt_psn po w fo c)) :
    ∃ d, d < c ∧ fo d ≤ k ∧ k < ot d ∧ D c d ∧ ¬ po d < 0 := by
  obtain ⟨b1, b2, b3, b4, b5⟩ := id hbk
  have h0 : pt_psn po w fo 0 = a0 := by unfold pt_psn; rw [if_neg b4]; exact b5
  have hod := pt_bk_od hbk
  have hnb : ∀ d, d < B → ∀ i, fo d ≤ i → i < ot d → ¬ po d < 0 := fun d hd i i1 i2 h => by have := (b2 d hd h).2.1; omega
  -- what waits at the end of a block: at its beginning, or made in it
  have hend : ∀ p, p < B → k ∈ pt_T P a0 (pt_pen po w fo ot p) → k ∈ pt_T P a0 (pt_psn po w fo p) ∨ (fo p ≤ k ∧ k < ot p) := by
    intro p hp h
    by_cases hn : po p < 0
    · unfold pt_pen at h
      unfold pt_psn
      rw [if_pos hn] at h ⊢
      exact Or.inl h
    · have hle := pt_psn_le hbk hB hp
      unfold pt_pen at h
      rw [if_neg hn] at h
      rcases pt_T_back hle.1 (ot p) (hle.2 hn) h with h9 | h9
      · exact Or.inl h9
      · unfold pt_psn at h9
        rw [if_neg hn] at h9
        exact Or.inr ⟨h9, (pt_T_mem _ h).2.1⟩
  have hex : ∀ c, c < B → k ∈ pt_T P a0 (pt_psn po w fo c) → ∃ d, d < B ∧ fo d ≤ k ∧ k < ot d := by
    intro c
    induction c using Nat.strongRecOn with
    | _ c ih =>
      intro hc hk
      by_cases hc0 : c = 0
      · rw [hc0, h0, pt_T_a P a0 a0 (Nat.le_refl _)] at hk; cases hk
      · obtain ⟨p, p1, p2⟩ := hd.1 c hc hc0
        rw [pt_T_edge hB hbk hT (by omega) hc ((hF.1 p c (by omega) hc).mp p2)] at hk
        rcases hend p (by omega) hk with h | h
        · exact ih p p1 (by omega) h
        · exact ⟨p, by omega, h.1, h.2⟩
  obtain ⟨d, d1, d2, d3⟩ := hex c hc hk
  have hdn : ¬ po d < 0 := hnb d d1 k d2 d3
  have hD : D c d := hd.2 (fun c' d' => d' = d ∧ (c' = d ∨ (c' < B ∧ k ∈ pt_T P a0 (pt_psn po w fo c')))) (fun d' h => by
      obtain ⟨rfl, h | ⟨_, h⟩⟩ := h
      · exact h.symm
      · rw [h0, pt_T_a P a0 a0 (Nat.le_refl _)] at h; cases h) (fun p c' d' hp hc' hc0 hs h => by
      obtain ⟨rfl, h | ⟨_, h⟩⟩ := h
      · exact Or.inl h.symm
      · rw [pt_T_edge hB hbk hT hp hc' ((hF.1 p c' hp hc').mp hs)] at h
        rcases hend p hp h with h9 | h9
        · exact Or.inr ⟨rfl, Or.inr ⟨hp, h9⟩⟩
        · exact Or.inr ⟨rfl, Or.inl (hod p d' k hp d1 h9.1 h9.2 d2 d3)⟩) c d hc d1 ⟨rfl, Or.inr ⟨hc, hk⟩⟩
  have hle := (hG.2.1 c d hc hD).1
  have hne : d ≠ c := by
    intro e
    have h9 := (pt_T_mem _ hk).2.1
    unfold pt_psn at h9
    rw [← e, if_neg hdn] at h9
    omega
  exact ⟨d, by omega, d2, d3, hD, hdn⟩
theorem pt_og_of {F : pu_Flow} {D : Nat → Nat → Prop} (hB : B ≤ 60) (hB0 : 0 < B) (h3 : a1 ≤ 3200) (hbk : pt_bk P a0 a1 w po B fo ot pj) (hT : pt_Tc P a0 a1) (hF : pt_sw F w B) (hG : pu_grf F (fun b => b < B) D) (hd : pu_dom F B D) {x j : Nat} (hx : x < B) (j1 : fo x ≤ j) (j2 : j < ot x) {z : Int32} (hz : z = -1 ∨ ∃ t, z = pt_at (pt_T P a0 j) t) : pt_og fo ot x j z := by
  obtain ⟨b1, b2, b3, b4, b5⟩ := id hbk
  have hn : ¬ po x < 0 := fun h => by have := (b2 x hx h).2.1; omega
  obtain ⟨p1, p2, p3, p4, p5, _⟩ := b1 x hx hn
  have hot : ot x ≤ 3200 := by
    rw [p5]
    unfold pt_to
    by_cases h : P 9 (pj x) = 35
    · rw [if_pos h]; omega
    · rw [if_neg h]; omega
  have hps : pt_psn po w fo x = fo x := by unfold pt_psn; rw [if_neg hn]
  have ha := (pt_psn_le hbk hB hx).1
  rcases hz with rfl | ⟨t, rfl⟩
  · exact Or.inl (by decide)
  · unfold pt_at
    cases h : (pt_T P a0 j)[t]? with
    | none => exact Or.inl (show (-1 : Int32) < 0 by decide)
    | some k =>
      have hk : k ∈ pt_T P a0 j := List.mem_of_getElem? h
      have hkj := (pt_T_mem _ hk).2.1
      right
      rw [hps] at ha
      rcases pt_T_back ha j j1 hk with h9 | h9
      · rw [← hps] at h9
        obtain ⟨d, d1, d2, d3, d4, d5⟩ := pt_wait_dom hB hB0 hbk hT hF hG hd hx h9
        exact ⟨k, d, by omega, rfl, by omega, d2, d3, fun e => by omega⟩
      · exact ⟨k, x, by omega, rfl, Nat.le_refl _, h9, by omega, fun _ => hkj⟩
end OD
