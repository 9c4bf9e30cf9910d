/-! pure side: Made.part's function over a depth -/
section DPV
variable {xm : Nat} {xf : RI}
theorem dw_zero (hx : xm < 2147483648) : pw9 xm xf 0 (rP xm xf 1) := by
  intro w s h b1 b2 b3
  have hX : dX 0 = 3 := rfl
  obtain ⟨w1, h1, m1⟩ := dw_dr (xf := xf) hx h (n := 10) (by omega) (by decide) (by decide)
  have hv := dx_lt (xm := xm) (xf := xf) s.1 10 (by decide)
  have m3 : mr9 (upw w1 0 2 (w1 0 2 - 1)) (s.1 + 1, s.2.1 + 1, s.2.2) := ⟨m1.1, by
    show w1 0 2 - 1 = _
    rw [m1.2.1]; exact r46 _, m1.2.2.1, m1.2.2.2⟩
  obtain ⟨w2, h2, m2, e2, q2⟩ := dw_leaf (xf := xf) hx hv m3 (by show s.1 + 1 < _; omega)
  refine ⟨w2, ?_, m2, ?_⟩
  · show fX13_part (rP xm xf 0) xm xf w (pu_I 0) = _
    unfold fX13_part
    rw [show fX13_draw w 10 xm xf = _ from h1, Option.bind_some]
    dsimp only [lt9]
    rw [if_pos (show pu_I 0 = 0 from rfl)]
    exact h2
  · show db9 0 s (md_leaf (dx xm xf) (dx xm xf s.1 10) (s.1 + 1, s.2.1 + 1, s.2.2)).2
    unfold db9
    rw [e2]
    dsimp only at q2 ⊢
    omega
theorem dw_succ (hx : xm < 2147483648) {d : Nat} (hd : d < 1000) (ih : pw9 xm xf d (rP xm xf (d + 1))) : pw9 xm xf (d + 1) (rP xm xf (d + 2)) := by
  intro w s h b1 b2 b3
  have hX : dX (d + 1) = 2 * dX d + 4 := rfl
  obtain ⟨w1, h1, m1⟩ := dw_dr (xf := xf) hx h (n := 10) (by omega) (by decide) (by decide)
  have hv := dx_lt (xm := xm) (xf := xf) s.1 10 (by decide)
  have m3 : mr9 (upw w1 0 2 (w1 0 2 - 1)) (s.1 + 1, s.2.1 + 1, s.2.2) := ⟨m1.1, by
    show w1 0 2 - 1 = _
    rw [m1.2.1]; exact r46 _, m1.2.2.1, m1.2.2.2⟩
  have hp1 : pu_I (d + 1) - 1 = pu_I d := by
    rw [show (1 : Int32) = pu_I 1 from rfl, pu_sub (by omega)]; rfl
  have hne : ¬ pu_I (d + 1) = 0 := fun e => by
    have e2 : d + 1 = 0 := pu_inj (by omega) (by decide) (e.trans (rfl : (0 : Int32) = pu_I 0))
    omega
  have hop := dw_op (xf := xf) hx ih m3 b1 b2 b3
  obtain ⟨wl, hl, ml, el, ql⟩ := dw_leaf (xf := xf) hx hv m3 (by show s.1 + 1 < _; omega)
  have hroom : (upw w1 0 2 (w1 0 2 - 1)) 0 2 < 0 ↔ 46 < s.2.1 + 1 := by
    rw [m3.2.1]; exact lt46 (by show s.2.1 + 1 ≤ _; omega)
  have hL : db9 (d + 1) s (md_leaf (dx xm xf) (dx xm xf s.1 10) (s.1 + 1, s.2.1 + 1, s.2.2)).2 := by
    unfold db9
    rw [el]
    dsimp only at ql ⊢
    omega
  generalize hw3 : upw w1 0 2 (w1 0 2 - 1) = w3 at m3 hop hl hroom
  generalize hve : dx xm xf s.1 10 = v at hv hl ml el ql hL
  show ∃ w', fX13_part (rP xm xf (d + 1)) xm xf w (pu_I (d + 1)) = some ((if 46 < s.2.1 + 1 ∨ dx xm xf s.1 10 < 2 then _ else _), w') ∧ mr9 w' (if 46 < s.2.1 + 1 ∨ dx xm xf s.1 10 < 2 then _ else _ : RE × md_S).2 ∧ db9 (d + 1) s (if 46 < s.2.1 + 1 ∨ dx xm xf s.1 10 < 2 then _ else _ : RE × md_S).2
  unfold fX13_part
  rw [show fX13_draw w 10 xm xf = _ from h1, Option.bind_some]
  dsimp only [lt9]
  rw [if_neg hne, hw3, hp1, hve]
  by_cases c1 : 46 < s.2.1 + 1
  · rw [if_pos (hroom.mpr c1), if_pos (Or.inl c1), if_pos (Or.inl c1)]
    exact ⟨wl, hl, ml, hL⟩
  rw [if_neg (fun e => c1 (hroom.mp e))]
  have le2 : (2 : Int32) ≤ pu_I v ↔ 2 ≤ v := pu_le (a := 2) (b := v) (by decide) (by omega)
  by_cases c2 : v < 2
  · rw [if_neg (fun e => by have := le2.mp e; omega), if_pos (Or.inr c2), if_pos (Or.inr c2)]
    exact ⟨wl, hl, ml, hL⟩
  have n12 : ¬ (46 < s.2.1 + 1 ∨ v < 2) := fun e => e.elim c1 c2
  rw [if_pos (le2.mpr (by omega)), if_neg n12, if_neg n12]
  have vi : ∀ k, k < 10 → (pu_I v = pu_I k ↔ v = k) := fun k hk => ⟨fun e => pu_inj (by omega) (by omega) e, fun e => by rw [e]⟩
  have vi2 : pu_I v = 2 ↔ v = 2 := vi 2 (by decide)
  have vi3 : pu_I v = 3 ↔ v = 3 := vi 3 (by decide)
  have vi4 : pu_I v = 4 ↔ v = 4 := vi 4 (by decide)
  by_cases c3 : v = 2
  · rw [if_pos (vi2.mpr c3), if_pos c3, if_pos c3]
    obtain ⟨w4, h4, m4⟩ := dw_dr (xf := xf) hx m3 (n := 2) (by show s.1 + 1 < _; omega) (by decide) (by decide)
    rw [show fX13_draw w3 2 xm xf = _ from h4, Option.bind_some]
    have hk := dx_lt (xm := xm) (xf := xf) (s.1 + 1) 2 (by decide)
    dsimp only at m4 ⊢
    obtain ⟨w5, h5, m5, p1, p2, p3⟩ := ih w4 (s.1 + 2, s.2.1 + 1, s.2.2) m4 (by show s.1 + 2 + _ ≤ _; omega) (by show s.2.1 + 1 + _ ≤ _; omega) (by show s.2.2.1 + _ ≤ _; omega)
    rw [h5, Option.bind_some]
    have hp := dw_p1 hk (mx_part (dx xm xf) d (s.1 + 2, s.2.1 + 1, s.2.2))
    dsimp only at p1 p2 p3 ⊢
    rw [if_pos hp.1, hp.2]
    exact ⟨w5, rfl, m5, by omega, by omega, by omega⟩
  have n3 : ¬ pu_I v = 2 := fun e => c3 (vi2.mp e)
  rw [if_neg n3, if_neg c3, if_neg c3]
  by_cases c4 : v = 3
  · rw [if_pos (vi3.mpr c4), if_pos c4, if_pos c4]
    obtain ⟨w5, h5, m5, p1, p2, p3⟩ := ih w3 (s.1 + 1, s.2.1 + 1, s.2.2) m3 (by show s.1 + 1 + _ ≤ _; omega) (by show s.2.1 + 1 + _ ≤ _; omega) (by show s.2.2.1 + _ ≤ _; omega)
    rw [h5, Option.bind_some]
    have hp := dw_p7 (mx_part (dx xm xf) d (s.1 + 1, s.2.1 + 1, s.2.2))
    dsimp only at p1 p2 p3 ⊢
    rw [if_pos hp.1, hp.2]
    exact ⟨w5, rfl, m5, by omega, by omega, by omega⟩
  have n4 : ¬ pu_I v = 3 := fun e => c4 (vi3.mp e)
  rw [if_neg n4, if_neg c4, if_neg c4]
  have h8 : (8 : Int32) ≤ w3 0 4 ↔ 8 ≤ s.2.2.1 := by
    rw [m3.2.2.2]; exact pu_le (a := 8) (by decide) (by show s.2.2.1 < _; omega)
  by_cases c5 : v = 4
  · rw [if_pos (vi4.mpr c5)]
    by_cases c6 : s.2.2.1 < 8
    · have n8 : ¬ (8 : Int32) ≤ w3 0 4 := fun e => by have := h8.mp e; omega
      have c7 : v = 4 ∧ s.2.2.1 < 8 := ⟨c5, c6⟩
      rw [if_neg n8, if_pos c7, if_pos c7]
      have m6 : mr9 (upw w3 0 4 (w3 0 4 + 1)) (s.1 + 1, s.2.1 + 1, s.2.2.1 + 1, s.2.2.2) := ⟨m3.1, m3.2.1, m3.2.2.1, by
        show w3 0 4 + 1 = _
        rw [m3.2.2.2]; exact (Int32.ofNat_add s.2.2.1 1).symm⟩
      obtain ⟨w7, h7, m7, p1, p2, p3⟩ := ih _ (s.1 + 1, s.2.1 + 1, s.2.2.1 + 1, s.2.2.2) m6 (by show s.1 + 1 + _ ≤ _; omega) (by show s.2.1 + 1 + _ ≤ _; omega) (by show s.2.2.1 + 1 + _ ≤ _; omega)
      rw [h7, Option.bind_some]
      dsimp only at p1 p2 p3 ⊢
      generalize md_part (dx xm xf) d (s.1 + 1, s.2.1 + 1, s.2.2.1 + 1, s.2.2.2) = l at m7 p1 p2 p3 ⊢
      obtain ⟨w8, h8', m8⟩ := dw_dr (xf := xf) hx m7 (n := 2) (by omega) (by decide) (by decide)
      rw [show fX13_draw w7 2 xm xf = _ from h8', Option.bind_some]
      have hk := dx_lt (xm := xm) (xf := xf) l.2.1 2 (by decide)
      dsimp only at m8 ⊢
      obtain ⟨w9, h9, m9, q1, q2, q3⟩ := ih w8 (l.2.1 + 1, l.2.2) m8 (by show l.2.1 + 1 + _ ≤ _; omega) (by show l.2.2.1 + _ ≤ _; omega) (by show l.2.2.2.1 + _ ≤ _; omega)
      rw [h9, Option.bind_some]
      have hp := dw_p5 hk (mx_part (dx xm xf) d (s.1 + 1, s.2.1 + 1, s.2.2.1 + 1, s.2.2.2)) (mx_part (dx xm xf) d (l.2.1 + 1, l.2.2))
      dsimp only at q1 q2 q3 ⊢
      rw [if_pos hp.1, hp.2]
      exact ⟨w9, rfl, m9, by omega, by omega, by omega⟩
    · have n7 : ¬ (v = 4 ∧ s.2.2.1 < 8) := fun e => c6 e.2
      rw [if_pos (h8.mpr (by omega)), if_neg n7, if_neg n7]
      exact hop
  · have n4 : ¬ pu_I v = 4 := fun e => c5 (vi4.mp e)
    have n7 : ¬ (v = 4 ∧ s.2.2.1 < 8) := fun e => c5 e.1
    rw [if_neg n4, if_neg n7, if_neg n7]
    exact hop
/-- PARTS ARE DRAWN AS md_part AND PRINT mx_part -/
theorem dw_part (hx : xm < 2147483648) : ∀ d, d < 1000 → pw9 xm xf d (rP xm xf (d + 1)) := by
  intro d
  induction d with
  | zero => intro _; exact dw_zero hx
  | succ d ih => intro h; exact dw_succ hx (by omega) (ih (by omega))
end DPV
