/-! pure side: Made.part's function, whole -/
section DPW
variable {xm : Nat} {xf : RI}
theorem r46 (p : Nat) : (46 - pu_I p) - 1 = 46 - pu_I (p + 1) := by
  rw [show pu_I (p + 1) = pu_I p + 1 from Int32.ofNat_add p 1]
  simp [Int32.sub_eq_add_neg, Int32.neg_add, Int32.add_assoc]
theorem lt46 {m : Nat} (h : m ≤ 2000000) : (46 - pu_I m : Int32) < 0 ↔ 46 < m := by
  have e : (46 - pu_I m : Int32).toInt = 46 - (m : Int) := by
    rw [Int32.toInt_sub, pu_ti (by omega)]
    show Int.bmod (46 - (m : Int)) 4294967296 = _
    exact Int.bmod_eq_of_le (by omega) (by omega)
  rw [Int32.lt_iff_toInt_lt, e]
  show 46 - (m : Int) < 0 ↔ _
  omega
theorem dw_p1 {k : Nat} (h : k < 2) (b : List Int32) : pk1 (3 + pu_I k) 0 = true ∧ pb1 (3 + pu_I k) 0 b = 40 :: ((if k = 0 then 45 else 33) :: b ++ [41]) := by
  rcases (by omega : k = 0 ∨ k = 1) with e | e <;> subst e <;> exact ⟨rfl, rfl⟩
theorem dw_p7 (b : List Int32) : pk1 7 0 = true ∧ pb1 7 0 b = 91 :: (b ++ [93]) := ⟨rfl, rfl⟩
theorem dw_p5 {k : Nat} (h : k < 2) (b c : List Int32) : pk2 (5 + pu_I k) 0 = true ∧ pb2 (5 + pu_I k) 0 b c = 40 :: ((b ++ ((if k = 0 then [38, 38] else [124, 124]) ++ c)) ++ [41]) := by
  rcases (by omega : k = 0 ∨ k = 1) with e | e <;> subst e <;> refine ⟨rfl, ?_⟩
  · show [40] ++ b ++ [38, 38] ++ c ++ [41] = _
    simp
  · show [40] ++ b ++ [124, 124] ++ c ++ [41] = _
    simp
theorem dw_p2 {k : Nat} (h : 1 ≤ k ∧ k ≤ 16) (b c : List Int32) : pk2 2 (pu_I k) = true ∧ pb2 2 (pu_I k) b c = 40 :: ((b ++ (mx_op k ++ c)) ++ [41]) := by
  constructor
  · exact decide_eq_true (Or.inl ⟨rfl, (pu_le (a := 1) (by decide) (by omega)).mpr h.1, (pu_le (b := 16) (by omega) (by decide)).mpr h.2⟩)
  · show [40] ++ b ++ mx_op (nn (pu_I k)) ++ c ++ [41] = _
    rw [pu_nn (by omega)]
    simp
/-- the parts within are drawn so -/
def pw9 (xm : Nat) (xf : RI) (d : Nat) (kk : ST → Int32 → Option (List Int32 × ST)) : Prop := ∀ (w : ST) (s : md_S), mr9 w s → s.1 + dX d ≤ 1000000 → s.2.1 + dX d ≤ 1000000 → s.2.2.1 + dX d ≤ 1000000 →
  ∃ w', kk w (pu_I d) = some (mx_part (dx xm xf) d s, w') ∧ mr9 w' (md_part (dx xm xf) d s).2 ∧ db9 d s (md_part (dx xm xf) d s).2
theorem dw_op (hx : xm < 2147483648) {d : Nat} {kk : ST → Int32 → Option (List Int32 × ST)} (hkk : pw9 xm xf d kk) {w3 : ST} {s : md_S} (h : mr9 w3 (s.1 + 1, s.2.1 + 1, s.2.2)) (b1 : s.1 + dX (d + 1) ≤ 1000000) (b2 : s.2.1 + dX (d + 1) ≤ 1000000) (b3 : s.2.2.1 + dX (d + 1) ≤ 1000000) :
    ∃ w', ((fX13_draw w3 16 xm xf).bind fun (o_49 : Int32 × ST) => ((kk (o_49.2) (pu_I d)).bind fun (o_51 : List Int32 × ST) => (if (1 + (o_49.1)) = 4 then ((fX13_draw (o_51.2) 5 xm xf).bind fun (o_53 : Int32 × ST) => (if (o_53.1) = 0 then ((kk (o_53.2) (pu_I d)).bind fun (o_57 : List Int32 × ST) => (if pk2 2 (1 + (o_49.1)) = true then some ((pb2 2 (1 + (o_49.1)) (o_51.1) (o_57.1)), (o_57.2)) else none)) else ((fX13_draw (o_53.2) 9 xm xf).bind fun (o_61 : Int32 × ST) => (if pk0 0 (1 + (o_61.1)) = true then (if pk2 2 (1 + (o_49.1)) = true then some ((pb2 2 (1 + (o_49.1)) (o_51.1) (pb0 0 (1 + (o_61.1)))), (o_61.2)) else none) else none)))) else (if (1 + (o_49.1)) = 5 then ((fX13_draw (o_51.2) 5 xm xf).bind fun (o_66 : Int32 × ST) => (if (o_66.1) = 0 then ((kk (o_66.2) (pu_I d)).bind fun (o_70 : List Int32 × ST) => (if pk2 2 (1 + (o_49.1)) = true then some ((pb2 2 (1 + (o_49.1)) (o_51.1) (o_70.1)), (o_70.2)) else none)) else ((fX13_draw (o_66.2) 9 xm xf).bind fun (o_74 : Int32 × ST) => (if pk0 0 (1 + (o_74.1)) = true then (if pk2 2 (1 + (o_49.1)) = true then some ((pb2 2 (1 + (o_49.1)) (o_51.1) (pb0 0 (1 + (o_74.1)))), (o_74.2)) else none) else none)))) else ((kk (o_51.2) (pu_I d)).bind fun (o_79 : List Int32 × ST) => (if pk2 2 (1 + (o_49.1)) = true then some ((pb2 2 (1 + (o_49.1)) (o_51.1) (o_79.1)), (o_79.2)) else none)))))) = some ((fun k : Nat => (fun l : RE × md_S => 40 :: ((mx_part (dx xm xf) d (s.1 + 2, s.2.1 + 1, s.2.2) ++ (mx_op k ++
      (if k = 4 ∨ k = 5 then (if dx xm xf l.2.1 5 = 0 then mx_part (dx xm xf) d (l.2.1 + 1, l.2.2) else mp_d (1 + dx xm xf (l.2.1 + 1) 9)) else mx_part (dx xm xf) d l.2))) ++ [41])) (md_part (dx xm xf) d (s.1 + 2, s.2.1 + 1, s.2.2))) (1 + dx xm xf (s.1 + 1) 16), w') ∧
    mr9 w' ((fun k : Nat => (fun l : RE × md_S =>
      if k = 4 ∨ k = 5 then (if dx xm xf l.2.1 5 = 0 then (fun r : RE × md_S => (re_pr (re_bn (md_op k).1 (pu_I k) (md_op k).2 l.1 r.1), r.2)) (md_part (dx xm xf) d (l.2.1 + 1, l.2.2))
        else (re_pr (re_bn (md_op k).1 (pu_I k) (md_op k).2 l.1 (re_nm (pu_I (1 + dx xm xf (l.2.1 + 1) 9)))), (l.2.1 + 2, l.2.2)))
      else (fun r : RE × md_S => (re_pr (re_bn (md_op k).1 (pu_I k) (md_op k).2 l.1 r.1), r.2)) (md_part (dx xm xf) d l.2)) (md_part (dx xm xf) d (s.1 + 2, s.2.1 + 1, s.2.2))) (1 + dx xm xf (s.1 + 1) 16)).2 ∧
    db9 (d + 1) s ((fun k : Nat => (fun l : RE × md_S =>
      if k = 4 ∨ k = 5 then (if dx xm xf l.2.1 5 = 0 then (fun r : RE × md_S => (re_pr (re_bn (md_op k).1 (pu_I k) (md_op k).2 l.1 r.1), r.2)) (md_part (dx xm xf) d (l.2.1 + 1, l.2.2))
        else (re_pr (re_bn (md_op k).1 (pu_I k) (md_op k).2 l.1 (re_nm (pu_I (1 + dx xm xf (l.2.1 + 1) 9)))), (l.2.1 + 2, l.2.2)))
      else (fun r : RE × md_S => (re_pr (re_bn (md_op k).1 (pu_I k) (md_op k).2 l.1 r.1), r.2)) (md_part (dx xm xf) d l.2)) (md_part (dx xm xf) d (s.1 + 2, s.2.1 + 1, s.2.2))) (1 + dx xm xf (s.1 + 1) 16)).2 := by
  have hX : dX (d + 1) = 2 * dX d + 4 := rfl
  obtain ⟨w1, h1, m1⟩ := dw_dr (xf := xf) hx h (n := 16) (by show s.1 + 1 < _; omega) (by decide) (by decide)
  rw [show fX13_draw w3 16 xm xf = _ from h1, Option.bind_some]
  have hk := dx_lt (xm := xm) (xf := xf) (s.1 + 1) 16 (by decide)
  dsimp only at m1 ⊢
  generalize hke : dx xm xf (s.1 + 1) 16 = k at hk ⊢
  obtain ⟨w2, h2, m2, q1, q2, q3⟩ := hkk w1 (s.1 + 2, s.2.1 + 1, s.2.2) m1 (by show s.1 + 2 + _ ≤ _; omega) (by show s.2.1 + 1 + _ ≤ _; omega) (by show s.2.2.1 + _ ≤ _; omega)
  rw [h2, Option.bind_some]
  dsimp only at q1 q2 q3 ⊢
  rw [show (1 : Int32) + pu_I k = pu_I (1 + k) from (Int32.ofNat_add 1 k).symm]
  generalize hl : md_part (dx xm xf) d (s.1 + 2, s.2.1 + 1, s.2.2) = l at m2 q1 q2 q3 ⊢
  have h45 : ∀ {α : Type} (a b c : Option α) (hab : a = b), (if pu_I (1 + k) = 4 then a else if pu_I (1 + k) = 5 then b else c) = if 1 + k = 4 ∨ 1 + k = 5 then a else c := by
    intro α a b c hab
    by_cases e4 : 1 + k = 4
    · rw [if_pos (show pu_I (1 + k) = 4 by rw [e4]; rfl), if_pos (Or.inl e4)]
    · rw [if_neg (fun e => e4 (pu_inj (by omega) (by decide) (e.trans (rfl : (4 : Int32) = pu_I 4))))]
      by_cases e5 : 1 + k = 5
      · rw [if_pos (show pu_I (1 + k) = 5 by rw [e5]; rfl), if_pos (Or.inr e5), hab]
      · rw [if_neg (fun e => e5 (pu_inj (by omega) (by decide) (e.trans (rfl : (5 : Int32) = pu_I 5)))), if_neg (fun e => e.elim e4 e5)]
  rw [h45 _ _ _ rfl]
  by_cases hc : 1 + k = 4 ∨ 1 + k = 5
  · rw [if_pos hc, if_pos hc, if_pos hc]
    obtain ⟨w4, h4, m4⟩ := dw_dr (xf := xf) hx m2 (n := 5) (by omega) (by decide) (by decide)
    rw [show fX13_draw w2 5 xm xf = _ from h4, Option.bind_some]
    dsimp only at m4 ⊢
    by_cases hd : dx xm xf l.2.1 5 = 0
    · rw [if_pos (show pu_I (dx xm xf l.2.1 5) = 0 by rw [hd]; rfl), if_pos hd, if_pos hd]
      obtain ⟨w5, h5, m5, p1, p2, p3⟩ := hkk w4 (l.2.1 + 1, l.2.2) m4 (by show l.2.1 + 1 + _ ≤ _; omega) (by show l.2.2.1 + _ ≤ _; omega) (by show l.2.2.2.1 + _ ≤ _; omega)
      rw [h5, Option.bind_some]
      have hp := dw_p2 (k := 1 + k) (by omega) (mx_part (dx xm xf) d (s.1 + 2, s.2.1 + 1, s.2.2)) (mx_part (dx xm xf) d (l.2.1 + 1, l.2.2))
      dsimp only at p1 p2 p3 ⊢
      rw [if_pos hp.1, hp.2]
      exact ⟨w5, rfl, m5, by omega, by omega, by omega⟩
    · have hd5 := dx_lt (xm := xm) (xf := xf) l.2.1 5 (by decide)
      rw [if_neg (fun e => hd (pu_inj (by omega) (by decide) (e.trans (rfl : (0 : Int32) = pu_I 0)))), if_neg hd, if_neg hd]
      obtain ⟨w5, h5, m5⟩ := dw_dr (xf := xf) hx m4 (n := 9) (by show l.2.1 + 1 < _; omega) (by decide) (by decide)
      rw [show fX13_draw w4 9 xm xf = _ from h5, Option.bind_some]
      have hd9 := dx_lt (xm := xm) (xf := xf) (l.2.1 + 1) 9 (by decide)
      dsimp only at m5 ⊢
      rw [show (1 : Int32) + pu_I (dx xm xf (l.2.1 + 1) 9) = pu_I (1 + dx xm xf (l.2.1 + 1) 9) from (Int32.ofNat_add 1 _).symm]
      have hb := dw_pb (v := 1 + dx xm xf (l.2.1 + 1) 9) (by omega)
      have hp := dw_p2 (k := 1 + k) (by omega) (mx_part (dx xm xf) d (s.1 + 2, s.2.1 + 1, s.2.2)) (mp_d (1 + dx xm xf (l.2.1 + 1) 9))
      rw [if_pos hb.1, if_pos hp.1, hb.2, hp.2]
      exact ⟨w5, rfl, m5, by show l.2.1 + 2 ≤ _; omega, by show l.2.2.1 ≤ _; omega, by show l.2.2.2.1 ≤ _; omega⟩
  · rw [if_neg hc, if_neg hc, if_neg hc]
    obtain ⟨w5, h5, m5, p1, p2, p3⟩ := hkk w2 l.2 m2 (by omega) (by omega) (by omega)
    rw [h5, Option.bind_some]
    have hp := dw_p2 (k := 1 + k) (by omega) (mx_part (dx xm xf) d (s.1 + 2, s.2.1 + 1, s.2.2)) (mx_part (dx xm xf) d l.2)
    dsimp only
    rw [if_pos hp.1, hp.2]
    exact ⟨w5, rfl, m5, by omega, by omega, by omega⟩
end DPW
