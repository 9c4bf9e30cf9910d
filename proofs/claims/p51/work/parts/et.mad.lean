/-! pure side, the made function 2: a part is right -/
section MDQ
variable {dr : Nat → Nat → Nat}
theorem md_part_ok (hd : ∀ k n, 0 < n → dr k n < n) : ∀ d, d ≤ 2 → ∀ s : md_S, md_ok d s (md_part dr d s).2 (md_part dr d s).1 := by
  intro d
  induction d with
  | zero => intro _ s; exact md_leaf_ok hd
  | succ d ih =>
    intro hd2 s
    have ih := ih (by omega)
    unfold md_part
    by_cases c0 : 46 < s.2.1 + 1 ∨ dr s.1 10 < 2
    · rw [if_pos c0]
      exact md_leaf_ok hd
    rw [if_neg c0]
    have h46 : s.2.1 + 1 ≤ 46 := by omega
    by_cases c1 : dr s.1 10 = 2
    · rw [if_pos c1]
      have h := ih (s.1 + 2, s.2.1 + 1, s.2.2)
      generalize md_part dr d (s.1 + 2, s.2.1 + 1, s.2.2) = l at h ⊢
      have hlv : re_lv l.1 = 6 := by
        obtain ⟨_, _, _, _, ⟨h2, _⟩, _⟩ := h
        exact h2
      by_cases c2 : dr (s.1 + 1) 2 = 0
      · rw [if_pos c2]
        refine md_one h46 h (fun B g hN => re_N_mono (re_N_pr (re_N_ng hN hlv)) (Nat.le_refl _) (by omega) (Nat.le_refl _)) ⟨rfl, rfl, fun n => ⟨n + 1, rfl⟩, fun _ h => h⟩ rfl ⟨Nat.le_refl _, ?_, ?_, Nat.add_le_add_right (Nat.le_max_left _ _) 1, Nat.le_refl _⟩
        · show ((40, 0, 0) :: (((45, 0, 0) :: re_tks l.1) ++ [(41, 0, 0)])).length ≤ _
          simp only [List.length_cons, List.length_append, List.length_nil]; omega
        · show re_dp l.1 + 12 + 12 ≤ _; omega
      · rw [if_neg c2]
        refine md_one h46 h (fun B g hN => re_N_mono (re_N_pr (re_N_nt hN hlv)) (Nat.le_refl _) (Nat.le_refl _) (Nat.le_refl _)) ⟨rfl, rfl, fun n => ⟨n, rfl⟩, fun _ h => h⟩ rfl ⟨Nat.le_refl _, ?_, ?_, Nat.add_le_add_right (Nat.le_max_left _ _) 1, Nat.le_refl _⟩
        · show ((40, 0, 0) :: (((33, 0, 0) :: re_tks l.1) ++ [(41, 0, 0)])).length ≤ _
          simp only [List.length_cons, List.length_append, List.length_nil]; omega
        · show re_dp l.1 + 12 + 12 ≤ _; omega
    rw [if_neg c1]
    by_cases c3 : dr s.1 10 = 3
    · rw [if_pos c3]
      have h := ih (s.1 + 1, s.2.1 + 1, s.2.2)
      generalize md_part dr d (s.1 + 1, s.2.1 + 1, s.2.2) = l at h ⊢
      refine md_one h46 h (fun B g hN => re_N_mono (re_N_ld hN) (by omega) (by omega) (by omega)) ⟨rfl, rfl, fun n => ⟨n, rfl⟩, fun _ h => h⟩ rfl ⟨?_, ?_, ?_, Nat.add_le_add_right (Nat.le_max_left _ _) 1, Nat.le_refl _⟩
      · show re_ln l.1 + 1 ≤ re_ln l.1 + 2; omega
      · show ((91, 0, 0) :: (re_tks l.1 ++ [(93, 0, 0)])).length ≤ _
        simp only [List.length_cons, List.length_append, List.length_nil]; omega
      · show re_dp l.1 + 12 ≤ _; omega
    rw [if_neg c3]
    have hl6 : ∀ {q : Nat} {s0 s' : md_S} {e : RE}, md_ok q s0 s' e → re_lv e = 6 := fun h => by
      obtain ⟨_, _, _, _, ⟨h2, _⟩, _⟩ := h
      exact h2
    by_cases c4 : dr s.1 10 = 4 ∧ s.2.2.1 < 8
    · rw [if_pos c4]
      have h := ih (s.1 + 1, s.2.1 + 1, s.2.2.1 + 1, s.2.2.2)
      generalize md_part dr d (s.1 + 1, s.2.1 + 1, s.2.2.1 + 1, s.2.2.2) = l at h ⊢
      dsimp only
      have h' := ih (l.2.1 + 1, l.2.2)
      generalize md_part dr d (l.2.1 + 1, l.2.2) = r at h' ⊢
      generalize decide (dr l.2.1 2 = 0) = c
      have hll : (if c = true then 1 else 0) < re_lv l.1 ∧ (if c = true then 1 else 0) < re_lv r.1 := by rw [hl6 h, hl6 h']; cases c <;> decide
      refine md_two (c := 1) h46 (Nat.le_refl 1) (fun _ => c4.2) h h' (fun B1 g1 B2 g2 n1 n2 => ⟨_, re_N_mono (re_N_pr (re_N_sc n1 n2 hll)) (Nat.max_le.mpr ⟨Nat.le_refl _, Nat.le_refl _⟩) (Nat.le_refl _) (by omega), Or.inr ⟨rfl, Nat.le_refl _⟩⟩) ⟨rfl, rfl, fun n => ⟨n, n + re_ln l.1 + 4, rfl⟩, fun _ h h' => ⟨h, h'⟩⟩ rfl ⟨Nat.le_refl _, ?_, ?_, Nat.le_refl _, Nat.le_refl _⟩ (by omega)
      · show ((40, 0, 0) :: ((re_tks l.1 ++ ((_, 0, 0) :: re_tks r.1)) ++ [(41, 0, 0)])).length ≤ _
        simp only [List.length_cons, List.length_append, List.length_nil]; omega
      · show max (re_dp l.1) (re_dp r.1) + 12 + 12 ≤ _; omega
    rw [if_neg c4]
    have hk16 := hd (s.1 + 1) 16 (by decide)
    obtain ⟨k, hk⟩ : ∃ k, k = 1 + dr (s.1 + 1) 16 := ⟨_, rfl⟩
    rw [← hk]
    dsimp only
    have hsg := md_op_sg k (by omega) (by omega)
    have hr4 : (md_op k).2 < 6 := by have := hsg.1.2; omega
    have h := ih (s.1 + 2, s.2.1 + 1, s.2.2)
    generalize md_part dr d (s.1 + 2, s.2.1 + 1, s.2.2) = l at h ⊢
    have htwo : ∀ q2, md_ok (d + 1) s (md_part dr d (q2, l.2.2)).2 (re_pr (re_bn (md_op k).1 (pu_I k) (md_op k).2 l.1 (md_part dr d (q2, l.2.2)).1)) := fun q2 => by
      have h' := ih (q2, l.2.2)
      generalize md_part dr d (q2, l.2.2) = r at h' ⊢
      refine md_two (c := 0) h46 (Nat.zero_le 1) (fun q => by cases q) h h' (fun B1 g1 B2 g2 n1 n2 => ⟨_, re_N_mono (re_N_pr (re_N_bn n1 n2 hsg ⟨by rw [hl6 h]; exact hr4, by rw [hl6 h']; exact hr4⟩)) (Nat.max_le.mpr ⟨by omega, Nat.le_refl _⟩) (Nat.le_refl _) (Nat.le_refl _), Or.inl (Nat.le_refl _)⟩) ⟨rfl, rfl, fun n => ⟨n, n + re_ln l.1, rfl⟩, fun _ h h' => ⟨h, h'⟩⟩ rfl ⟨Nat.le_refl _, ?_, ?_, Nat.le_refl _, Nat.le_refl _⟩ (by omega)
      · show ((40, 0, 0) :: ((re_tks l.1 ++ ((_, 0, 0) :: re_tks r.1)) ++ [(41, 0, 0)])).length ≤ _
        simp only [List.length_cons, List.length_append, List.length_nil]; omega
      · show max (re_dp l.1) (re_dp r.1) + 12 + 12 ≤ _; omega
    by_cases c5 : k = 4 ∨ k = 5
    · rw [if_pos c5]
      by_cases c6 : dr l.2.1 5 = 0
      · rw [if_pos c6]
        exact htwo _
      · rw [if_neg c6]
        have h2 : md_ok d (s.1 + 2, s.2.1 + 1, s.2.2) (l.2.1 + 2, l.2.2) l.1 := h
        refine md_one h46 h2 (fun B g hN => re_N_mono (re_N_pr (re_N_bn hN re_N_nm hsg ⟨by rw [hl6 h]; exact hr4, hr4⟩)) (Nat.max_le.mpr ⟨by omega, by omega⟩) (Nat.max_le.mpr ⟨by omega, by omega⟩) (Nat.le_refl _)) ⟨rfl, rfl, fun n => ⟨n, List.append_nil _⟩, fun _ h => ⟨h, trivial⟩⟩ rfl ⟨Nat.le_refl _, ?_, ?_, ?_, ?_⟩
        · show ((40, 0, 0) :: ((re_tks l.1 ++ ((_, 0, 0) :: [_])) ++ [(41, 0, 0)])).length ≤ _
          simp only [List.length_cons, List.length_append, List.length_nil]; omega
        · show max (re_dp l.1) 12 + 12 + 12 ≤ max (re_dp l.1) 12 + 24; omega
        · exact Nat.le_refl _
        · show max (re_br l.1) 0 + 1 ≤ re_br l.1 + 1; omega
    · rw [if_neg c5]
      exact htwo _
end MDQ
