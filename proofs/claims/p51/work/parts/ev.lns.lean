/-! pure side, the made function 4: lines without lines within -/
section MDE
variable {dr : Nat → Nat → Nat}
theorem md_leaf_p {sort : Nat} {s : md_S} : (md_leaf dr sort s).2.2 = s.2 := by
  unfold md_leaf
  by_cases e : sort % 2 = 0
  · rw [if_pos e]
    by_cases e2 : dr s.1 4 = 0
    · rw [if_pos e2]
    · rw [if_neg e2]
  · rw [if_neg e]
theorem md_part_p : ∀ d (s : md_S), (md_part dr d s).2.2.1 + 1 ≤ s.2.1 + 2 ^ (d + 1) := by
  intro d
  induction d with
  | zero =>
    intro s
    show (md_leaf dr (dr s.1 10) (s.1 + 1, s.2.1 + 1, s.2.2)).2.2.1 + 1 ≤ s.2.1 + 2
    rw [md_leaf_p]
    exact Nat.le_refl _
  | succ d ih =>
    intro s
    have h2 : 2 ≤ 2 ^ (d + 1) := by
      have := Nat.one_le_two_pow (n := d)
      rw [Nat.pow_succ]; omega
    have h3 : 2 ^ (d + 1 + 1) = 2 ^ (d + 1) * 2 := Nat.pow_succ ..
    unfold md_part
    by_cases c0 : 46 < s.2.1 + 1 ∨ dr s.1 10 < 2
    · rw [if_pos c0, md_leaf_p]
      show s.2.1 + 1 + 1 ≤ _
      omega
    rw [if_neg c0]
    by_cases c1 : dr s.1 10 = 2
    · rw [if_pos c1]
      have := ih (s.1 + 2, s.2.1 + 1, s.2.2)
      dsimp only at this ⊢
      omega
    rw [if_neg c1]
    by_cases c3 : dr s.1 10 = 3
    · rw [if_pos c3]
      have := ih (s.1 + 1, s.2.1 + 1, s.2.2)
      dsimp only at this ⊢
      omega
    rw [if_neg c3]
    by_cases c4 : dr s.1 10 = 4 ∧ s.2.2.1 < 8
    · rw [if_pos c4]
      have h := ih (s.1 + 1, s.2.1 + 1, s.2.2.1 + 1, s.2.2.2)
      generalize md_part dr d (s.1 + 1, s.2.1 + 1, s.2.2.1 + 1, s.2.2.2) = l at h ⊢
      dsimp only
      have h' := ih (l.2.1 + 1, l.2.2)
      dsimp only at h h'
      omega
    rw [if_neg c4]
    dsimp only
    have h := ih (s.1 + 2, s.2.1 + 1, s.2.2)
    generalize md_part dr d (s.1 + 2, s.2.1 + 1, s.2.2) = l at h ⊢
    dsimp only at h
    by_cases c5 : 1 + dr (s.1 + 1) 16 = 4 ∨ 1 + dr (s.1 + 1) 16 = 5
    · rw [if_pos c5]
      by_cases c6 : dr l.2.1 5 = 0
      · rw [if_pos c6]
        have h' := ih (l.2.1 + 1, l.2.2)
        dsimp only at h' ⊢
        omega
      · rw [if_neg c6]
        dsimp only
        omega
    · rw [if_neg c5]
      have h' := ih l.2
      dsimp only
      omega
/-- one's share of the first 46 -/
theorem md_w_le {p p' I : Nat} (h0 : p + 1 ≤ p') (h7 : p' ≤ p + 7) (h1 : I + min p 46 ≤ min p' 46) (h2 : p' ≤ 46 → I + 1 + p ≤ p') : I + md_w p ≤ md_w p' := by
  unfold md_w
  by_cases e : p = 0
  · rw [if_pos e, if_neg (by omega)]
    have := h2 (by omega)
    omega
  · rw [if_neg e, if_neg (by omega)]
    omega
theorem md_sw_mono {sv : rd_sv} {c c' : Nat} (h : md_sw sv c) (hc : c ≤ c') : md_sw sv c' := ⟨h.1, fun m h1 h2 => h.2 m (by omega) h2⟩
/-- a statement as a line -/
theorem md_c1 {h C : Nat} {s s' : md_S} {st : RS} {X I W Fk Bs fs gs : Nat} (hp : s.2.1 + 1 ≤ s'.2.1 ∧ s'.2.1 + 2 ≤ max (s.2.1 + 2) C + 2 ∧ I + md_w s.2.1 ≤ md_w s'.2.1) (hst : s'.2.2.1 = s.2.2.1 + Fk ∧ s'.2.2.2 = s.2.2.2 + W ∧ X + W ≤ Fk ∧ (s.2.2.1 ≤ 8 → s'.2.2.1 ≤ 8) ∧ (s.2.2.2 ≤ 3 → s'.2.2.2 ≤ 3))
    (hN : rs_N st Bs fs gs) (hB : Bs ≤ 15 * (2 ^ h - 1) + 6 + 9 * X) (hf : fs ≤ Fk) (hg : gs + s.2.1 ≤ s'.2.1 + I + 2 * X + 5 * W) (hnum : rs_sL st ≤ 2 * Fk ∧ rs_sV st ≤ X + W ∧ rs_ln st + s.2.1 ≤ s'.2.1 + I + 7 * X + 1 + 6 * Fk + 13 * W ∧ (rs_tks st).length + s.2.1 ≤ s'.2.1 + 4 * I + 4 + 14 * Fk + 11 * W)
    (hc : rs_cn st = 0 ∧ ∀ n, rs_cl st n = []) (hbr : rs_br st ≤ 3 + h ∧ rs_dp st ≤ 61 + 3 * h) (hsn : ∀ sv, md_sw sv s.2.2.2 → rs_sn st sv) : md_lk h 1 C s s' (fun b => rs_cons st b) := by
  obtain ⟨p1, p2, p3⟩ := hp
  obtain ⟨n1, n2, n3, n4⟩ := hnum
  refine ⟨X, I, W, Fk, gs, ⟨p1, p2, p3⟩, hst, hg, fun b Bb fb gb hb => ?_⟩
  have hln : 1 ≤ rs_ln st := hN.1.1.2.1
  have e5 : (rs_tks (rs_cons st b)).length = (rs_tks st).length + (rs_tks b).length := List.length_append
  refine ⟨rb_N_mono (rb_N_cons hN hb) (Nat.max_le.mpr ⟨Nat.le_trans hB (Nat.le_max_left _ _), Nat.le_max_right _ _⟩) (Nat.add_le_add_right hf _) (Nat.le_refl _), ⟨Nat.add_le_add_right n1 _, Nat.add_le_add_right n2 _, Nat.add_le_add_right hln _, ?_, ?_⟩, ⟨?_, fun hq n => ?_⟩, ⟨Nat.max_le.mpr ⟨Nat.le_trans hbr.1 (Nat.le_max_left _ _), Nat.le_max_right _ _⟩, Nat.max_le.mpr ⟨Nat.le_trans hbr.2 (Nat.le_max_left _ _), Nat.le_max_right _ _⟩⟩, fun sv hsv hb2 => ⟨hsn sv hsv, fun V _ => ?_⟩⟩
  · show rs_ln st + rs_ln b + s.2.1 ≤ _
    omega
  · dsimp only
    rw [e5]; omega
  · show rs_cn st + rs_cn b = rs_cn b
    rw [hc.1, Nat.zero_add]
  · show rs_cl st n ++ rs_cl b (n + rs_ln st) = []
    rw [hc.2, hq]; rfl
  · rw [hN.1.2.2.2.2 V]
    refine hb2 [] ?_
    rw [List.append_nil]
    exact md_sw_mono hsv (by have := hst.2.1; omega)
end MDE
