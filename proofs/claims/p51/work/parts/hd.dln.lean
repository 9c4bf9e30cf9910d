/-! pure side: lines are drawn as md_line and print mx_line -/
section DLN
variable {xm : Nat} {xf : RI}
def dL : Nat → Nat
  | 0 => 100
  | h + 1 => 3 * dL h + 100
def dl9 (h n : Nat) (s s' : md_S) : Prop := s'.1 ≤ s.1 + n * dL h ∧ s'.2.1 ≤ s.2.1 + n * dL h ∧ s'.2.2.1 ≤ s.2.2.1 + n * dL h ∧ s'.2.2.2 ≤ 3
/-- a state may go on by b -/
def dk9 (b : Nat) (s : md_S) : Prop := s.1 + b ≤ 900000 ∧ s.2.1 + b ≤ 900000 ∧ s.2.2.1 + b ≤ 900000 ∧ s.2.2.2 ≤ 3
theorem dw_nm {k : Nat} (h : k < 4) (x : List Int32) : nk4 (pu_I k) = true ∧ lb0 (pu_I k) x = mx_nm k ++ ([61] ++ (x ++ [59])) := by
  constructor
  · exact decide_eq_true ⟨(pu_le (a := 0) (by decide) (by omega)).mpr (Nat.zero_le _), (pu_lt (b := 4) (by omega) (by decide)).mpr h⟩
  · show mx_nm (nn (pu_I k)) ++ _ = _
    rw [pu_nn (by omega)]
theorem dw_cn (d : Nat) (hd : d ≤ 2) (s : md_S) : (md_part (dx xm xf) d s).2.2.2.2 = s.2.2.2 := by
  obtain ⟨B, g, I, _, _, _, _, ⟨_, _, h⟩, _⟩ := md_part_ok (dr := dx xm xf) dx_lt d hd s
  exact h
theorem dw_J (hx : xm < 2147483648) {v dp : Nat} {x : List Int32} {wt wd : ST} {t : md_S} (hv : v < 10) (hdp : dp ≤ 2) (h : mr9 wt t) (hb : dk9 40 t) :
    ∃ w', fX13_line_J55 (pu_I dp) xm xf (pu_I v, wd) (x, wt) = some ((if v = 5 ∧ decide (0 < dp) = true then (if dx xm xf t.1 4 = 0 then [114, 101, 116, 117, 114, 110, 32] ++ (x ++ [59]) else mx_nm (dx xm xf (t.1 + 1) 4) ++ ([61] ++ (x ++ [59]))) else if v = 6 then [91] ++ (x ++ ([93, 61] ++ (mx_part (dx xm xf) 1 (t.1 + 1, t.2) ++ [59]))) else mx_nm (dx xm xf t.1 4) ++ ([61] ++ (x ++ [59]))), w') ∧
      mr9 w' (if v = 5 ∧ decide (0 < dp) = true then (t.1 + 2, t.2) else if v = 6 then (md_part (dx xm xf) 1 (t.1 + 1, t.2)).2 else (t.1 + 1, t.2)) ∧
      (if v = 5 ∧ decide (0 < dp) = true then (t.1 + 2, t.2) else if v = 6 then (md_part (dx xm xf) 1 (t.1 + 1, t.2)).2 else (t.1 + 1, t.2)).1 ≤ t.1 + 20 ∧ (if v = 5 ∧ decide (0 < dp) = true then (t.1 + 2, t.2) else if v = 6 then (md_part (dx xm xf) 1 (t.1 + 1, t.2)).2 else (t.1 + 1, t.2)).2.1 ≤ t.2.1 + 20 ∧ (if v = 5 ∧ decide (0 < dp) = true then (t.1 + 2, t.2) else if v = 6 then (md_part (dx xm xf) 1 (t.1 + 1, t.2)).2 else (t.1 + 1, t.2)).2.2.1 ≤ t.2.2.1 + 20 ∧ (if v = 5 ∧ decide (0 < dp) = true then (t.1 + 2, t.2) else if v = 6 then (md_part (dx xm xf) 1 (t.1 + 1, t.2)).2 else (t.1 + 1, t.2)).2.2.2 = t.2.2.2 := by
  obtain ⟨b1, b2, b3, b4⟩ := hb
  unfold fX13_line_J55
  dsimp only [lt9]
  have e0 : wt 0 4 + 0 = wt 0 4 := Int32.add_zero _
  rw [e0]
  generalize hw6 : upw wt 0 4 (wt 0 4) = w6
  have h6 : mr9 w6 t := by subst hw6; exact ⟨h.1, h.2.1, h.2.2.1, h.2.2.2⟩
  obtain ⟨w1, d1, m1⟩ := dw_dr (xf := xf) hx h6 (n := 4) (by omega) (by decide) (by decide)
  have d1' : fX13_draw w6 4 xm xf = some (pu_I (dx xm xf t.1 4), w1) := d1
  obtain ⟨w2, d2, m2⟩ := dw_dr (xf := xf) hx m1 (n := 4) (by show t.1 + 1 < _; omega) (by decide) (by decide)
  have d2' : fX13_draw w1 4 xm xf = some (pu_I (dx xm xf (t.1 + 1) 4), w2) := d2
  have k1 := dx_lt (xm := xm) (xf := xf) t.1 4 (by decide)
  have k2 := dx_lt (xm := xm) (xf := xf) (t.1 + 1) 4 (by decide)
  by_cases c6 : v = 6
  · subst c6
    obtain ⟨w3, d3, m3, q1, q2, q3⟩ := dw_part (xf := xf) hx 1 (by decide) w1 (t.1 + 1, t.2) m1 (by show t.1 + 1 + 10 ≤ _; omega) (by show t.2.1 + 10 ≤ _; omega) (by show t.2.2.1 + 10 ≤ _; omega)
    have d3' : rP xm xf 2 w1 1 = some (mx_part (dx xm xf) 1 (t.1 + 1, t.2), w3) := d3
    have q4 := dw_cn (xm := xm) (xf := xf) 1 (by decide) (t.1 + 1, t.2)
    refine ⟨w3, ?_, ?_⟩
    · rw [if_pos (show pu_I 6 = 6 from rfl), if_neg (show ¬ pu_I 6 = 5 by decide), d1', Option.bind_some]
      show (rP xm xf 2 w1 1).bind (fun (o_11 : List Int32 × ST) => some (lb1 x o_11.1, o_11.2)) = _
      rw [d3']
      rfl
    · have n5 : ¬ ((6 : Nat) = 5 ∧ decide (0 < dp) = true) := fun q => by cases q.1
      rw [if_neg n5, if_pos rfl]
      exact ⟨m3, by have : dX 1 = 10 := rfl; dsimp only at q1; omega, by have : dX 1 = 10 := rfl; dsimp only at q2; omega, by have : dX 1 = 10 := rfl; dsimp only at q3; omega, q4⟩
  rw [if_neg (show ¬ pu_I v = 6 from fun e => c6 (pu_inj (by omega) (by decide) (e.trans (rfl : (6 : Int32) = pu_I 6))))]
  by_cases c5 : v = 5
  · subst c5
    rw [if_pos (show pu_I 5 = 5 from rfl)]
    by_cases c0 : dp = 0
    · subst c0
      rw [if_pos (show pu_I 0 ≤ 0 by decide), d1', Option.bind_some]
      obtain ⟨z1, z2⟩ := dw_nm k1 x
      have n5 : ¬ ((5 : Nat) = 5 ∧ decide (0 < 0) = true) := fun q => by cases q.2
      rw [if_neg n5, if_neg n5, if_neg (by decide : ¬ (5 : Nat) = 6), if_neg (by decide : ¬ (5 : Nat) = 6)]
      refine ⟨w1, ?_, m1, by show t.1 + 1 ≤ _; omega, by show t.2.1 ≤ _; omega, by show t.2.2.1 ≤ _; omega, rfl⟩
      show (if nk4 (pu_I (dx xm xf t.1 4)) = true then some (lb0 (pu_I (dx xm xf t.1 4)) x, w1) else none) = _
      rw [if_pos z1, z2]
    · have p5 : (5 : Nat) = 5 ∧ decide (0 < dp) = true := ⟨rfl, decide_eq_true (by omega)⟩
      rw [if_pos p5, if_pos p5]
      have n0 : ¬ pu_I dp ≤ 0 := fun e => c0 (by have := (pu_le (a := dp) (b := 0) (by omega) (by decide)).mp e; omega)
      rw [if_neg n0, d1', Option.bind_some]
      refine ⟨w2, ?_, m2, by show t.1 + 2 ≤ _; omega, by show t.2.1 ≤ _; omega, by show t.2.2.1 ≤ _; omega, rfl⟩
      by_cases c4 : dx xm xf t.1 4 = 0
      · show (if pu_I (dx xm xf t.1 4) = 0 then ((fX13_draw w1 4 xm xf).bind fun (o_19 : Int32 × ST) => some (lb5 x, o_19.2)) else _) = _
        rw [if_pos (show pu_I (dx xm xf t.1 4) = 0 by rw [c4]; rfl), d2', if_pos c4]
        rfl
      · obtain ⟨z1, z2⟩ := dw_nm k2 x
        show (if pu_I (dx xm xf t.1 4) = 0 then _ else ((fX13_draw w1 4 xm xf).bind fun (o_21 : Int32 × ST) => (if nk4 o_21.1 = true then some (lb0 o_21.1 x, o_21.2) else none))) = _
        rw [if_neg (show ¬ pu_I (dx xm xf t.1 4) = 0 from fun e => c4 (pu_inj (by omega) (by decide) (e.trans (rfl : (0 : Int32) = pu_I 0)))), d2', if_neg c4, Option.bind_some]
        show (if nk4 (pu_I (dx xm xf (t.1 + 1) 4)) = true then some (lb0 (pu_I (dx xm xf (t.1 + 1) 4)) x, w2) else none) = _
        rw [if_pos z1, z2]
  · have n5 : ¬ (v = 5 ∧ decide (0 < dp) = true) := fun q => c5 q.1
    rw [if_neg (show ¬ pu_I v = 5 from fun e => c5 (pu_inj (by omega) (by decide) (e.trans (rfl : (5 : Int32) = pu_I 5)))), d1', Option.bind_some, if_neg n5, if_neg n5, if_neg c6, if_neg c6]
    obtain ⟨z1, z2⟩ := dw_nm k1 x
    refine ⟨w1, ?_, m1, by show t.1 + 1 ≤ _; omega, by show t.2.1 ≤ _; omega, by show t.2.2.1 ≤ _; omega, rfl⟩
    show (if nk4 (pu_I (dx xm xf t.1 4)) = true then some (lb0 (pu_I (dx xm xf t.1 4)) x, w1) else none) = _
    rw [if_pos z1, z2]
/-- a line of h levels -/
def lw9 (xm : Nat) (xf : RI) (h : Nat) (kk : ST → Int32 → Option (List Int32 × ST)) : Prop := ∀ (w : ST) (s : md_S), mr9 w s → dk9 (dL h) s →
  ∃ w', kk w (pu_I (2 - h)) = some (mx_line (dx xm xf) h s, w') ∧ mr9 w' (md_line (dx xm xf) h s).2 ∧ dl9 h 1 s (md_line (dx xm xf) h s).2
theorem dw_many {h : Nat} {kk : ST → Int32 → Option (List Int32 × ST)} (hk : lw9 xm xf h kk) : ∀ (n : Nat) (w : ST) (s : md_S), mr9 w s → dk9 (n * dL h) s →
    ∃ w', fLs kk n w (pu_I (2 - h)) = some (mx_many (md_line (dx xm xf) h) (mx_line (dx xm xf) h) n s, w') ∧ mr9 w' (md_many (md_line (dx xm xf) h) n s).2 ∧ dl9 h n s (md_many (md_line (dx xm xf) h) n s).2 := by
  intro n
  induction n with
  | zero => intro w s hm hb; exact ⟨w, rfl, hm, Nat.le_add_right _ _, Nat.le_add_right _ _, Nat.le_add_right _ _, hb.2.2.2⟩
  | succ n ih =>
    intro w s hm hb
    obtain ⟨b1, b2, b3, b4⟩ := hb
    have e : (n + 1) * dL h = n * dL h + dL h := Nat.succ_mul n _
    obtain ⟨w1, r1, m1, q1, q2, q3, q4⟩ := hk w s hm ⟨by omega, by omega, by omega, b4⟩
    obtain ⟨w2, r2, m2, p1, p2, p3, p4⟩ := ih w1 (md_line (dx xm xf) h s).2 m1 ⟨by omega, by omega, by omega, q4⟩
    refine ⟨w2, ?_, m2, ?_⟩
    · show (kk w (pu_I (2 - h))).bind (fun (o : List Int32 × ST) => (fLs kk n o.2 (pu_I (2 - h))).bind fun (o2 : List Int32 × ST) => some (o.1 ++ o2.1, o2.2)) = _
      rw [r1, Option.bind_some]
      show (fLs kk n w1 (pu_I (2 - h))).bind (fun (o2 : List Int32 × ST) => some (mx_line (dx xm xf) h s ++ o2.1, o2.2)) = _
      rw [r2]
      rfl
    · show dl9 h (n + 1) s (md_many (md_line (dx xm xf) h) n (md_line (dx xm xf) h s).2).2
      exact ⟨by omega, by omega, by omega, p4⟩
/-- an if's rows -/
theorem dw_fi (hx : xm < 2147483648) {h : Nat} {kk : ST → Int32 → Option (List Int32 × ST)} (hk : lw9 xm xf h kk) {w : ST} {t : md_S} (hm : mr9 w t) (hb : dk9 (3 * dL h + 20) t) {P : Int32} (hP : P + 1 = pu_I (2 - h)) (x : List Int32) :
    ∃ w', ((fX13_draw w 4 xm xf).bind fun (o_33 : Int32 × ST) => ((fX13_draw (o_33.2) 2 xm xf).bind fun (o_35 : Int32 × ST) => (if ixb (1 + (o_35.1)) 3 = true then ((fLs kk (nn (1 + (o_35.1))) (o_35.2) (P + 1)).bind fun (o_37 : List Int32 × ST) => ((fX13_draw (o_37.2) 2 xm xf).bind fun (o_38 : Int32 × ST) => (if (o_38.1) = 0 then some ((lb2 x (o_37.1)), (o_38.2)) else ((fLs kk (nn 1) (o_38.2) (P + 1)).bind fun (o_42 : List Int32 × ST) => some ((lb3 x (o_37.1) (o_42.1)), (o_42.2)))))) else none))) = some ((fun (F : md_G × md_S) (fx : List Int32) => (if dx xm xf F.2.1 2 = 0 then [105, 102, 32] ++ (x ++ ([123] ++ (fx ++ [125])))
          else [105, 102, 32] ++ (x ++ ([123] ++ (fx ++ ([125] ++ ([101, 108, 115, 101, 123] ++ (mx_many (md_line (dx xm xf) h) (mx_line (dx xm xf) h) 1 (F.2.1 + 1, F.2.2) ++ [125]))))))))
          (md_many (md_line (dx xm xf) h) (1 + dx xm xf (t.1 + 1) 2) (t.1 + 2, t.2)) (mx_many (md_line (dx xm xf) h) (mx_line (dx xm xf) h) (1 + dx xm xf (t.1 + 1) 2) (t.1 + 2, t.2)), w') ∧
      mr9 w' ((fun (F : md_G × md_S) => if dx xm xf F.2.1 2 = 0 then (F.2.1 + 1, F.2.2) else (md_many (md_line (dx xm xf) h) 1 (F.2.1 + 1, F.2.2)).2) (md_many (md_line (dx xm xf) h) (1 + dx xm xf (t.1 + 1) 2) (t.1 + 2, t.2))) ∧
      (fun s' : md_S => s'.1 ≤ t.1 + (3 * dL h + 20) ∧ s'.2.1 ≤ t.2.1 + (3 * dL h + 20) ∧ s'.2.2.1 ≤ t.2.2.1 + (3 * dL h + 20) ∧ s'.2.2.2 ≤ 3) ((fun (F : md_G × md_S) => if dx xm xf F.2.1 2 = 0 then (F.2.1 + 1, F.2.2) else (md_many (md_line (dx xm xf) h) 1 (F.2.1 + 1, F.2.2)).2) (md_many (md_line (dx xm xf) h) (1 + dx xm xf (t.1 + 1) 2) (t.1 + 2, t.2))) := by
  obtain ⟨b1, b2, b3, b4⟩ := hb
  obtain ⟨w1, d1, m1⟩ := dw_dr (xf := xf) hx hm (n := 4) (by omega) (by decide) (by decide)
  have d1' : fX13_draw w 4 xm xf = some (pu_I (dx xm xf t.1 4), w1) := d1
  obtain ⟨w2, d2, m2⟩ := dw_dr (xf := xf) hx m1 (n := 2) (by show t.1 + 1 < _; omega) (by decide) (by decide)
  have d2' : fX13_draw w1 2 xm xf = some (pu_I (dx xm xf (t.1 + 1) 2), w2) := d2
  have k2 := dx_lt (xm := xm) (xf := xf) (t.1 + 1) 2 (by decide)
  generalize hke : dx xm xf (t.1 + 1) 2 = k at d2' k2 ⊢
  rw [d1', Option.bind_some]
  show ∃ w', ((fX13_draw w1 2 xm xf).bind fun (o_35 : Int32 × ST) => _) = _ ∧ _
  rw [d2', Option.bind_some]
  dsimp only
  have e1 : (1 : Int32) + pu_I k = pu_I (1 + k) := (Int32.ofNat_add 1 k).symm
  rw [e1, if_pos ((pu_ix (k := 1 + k) (n := 3) (by omega)).mpr (by omega)), pu_nn (by omega), hP]
  have hkL : (1 + k) * dL h ≤ 2 * dL h := Nat.mul_le_mul_right _ (by omega)
  obtain ⟨w3, r3, m3, q1, q2, q3, q4⟩ := dw_many hk (1 + k) w2 (t.1 + 2, t.2) m2 ⟨by show t.1 + 2 + _ ≤ _; omega, by show t.2.1 + _ ≤ _; omega, by show t.2.2.1 + _ ≤ _; omega, b4⟩
  rw [r3, Option.bind_some]
  dsimp only at q1 q2 q3 q4 ⊢
  generalize hF : md_many (md_line (dx xm xf) h) (1 + k) (t.1 + 2, t.2) = F at m3 q1 q2 q3 q4 ⊢
  generalize hfx : mx_many (md_line (dx xm xf) h) (mx_line (dx xm xf) h) (1 + k) (t.1 + 2, t.2) = fx
  obtain ⟨w4, d4, m4⟩ := dw_dr (xf := xf) hx m3 (n := 2) (by omega) (by decide) (by decide)
  have d4' : fX13_draw w3 2 xm xf = some (pu_I (dx xm xf F.2.1 2), w4) := d4
  rw [d4', Option.bind_some]
  dsimp only
  have k4 := dx_lt (xm := xm) (xf := xf) F.2.1 2 (by decide)
  by_cases c : dx xm xf F.2.1 2 = 0
  · rw [if_pos c, if_pos c, if_pos (show pu_I (dx xm xf F.2.1 2) = 0 by rw [c]; rfl)]
    exact ⟨w4, rfl, m4, by show F.2.1 + 1 ≤ _; omega, by show F.2.2.1 ≤ _; omega, by show F.2.2.2.1 ≤ _; omega, q4⟩
  · rw [if_neg c, if_neg c, if_neg (show ¬ pu_I (dx xm xf F.2.1 2) = 0 from fun e => c (pu_inj (by omega) (by decide) (e.trans (rfl : (0 : Int32) = pu_I 0))))]
    obtain ⟨w5, r5, m5, p1, p2, p3, p4⟩ := dw_many hk 1 w4 (F.2.1 + 1, F.2.2) m4 ⟨by show F.2.1 + 1 + _ ≤ _; omega, by show F.2.2.1 + _ ≤ _; omega, by show F.2.2.2.1 + _ ≤ _; omega, q4⟩
    have e2 : nn 1 = 1 := by decide
    rw [e2, r5, Option.bind_some]
    dsimp only at p1 p2 p3 p4 ⊢
    exact ⟨w5, rfl, m5, by omega, by omega, by omega, p4⟩
theorem dw_n3 {c : Nat} (h : c < 3) (v : Nat) (x : List Int32) : nk3 (pu_I c) = true ∧ lb4 (pu_I c) (mp_d v) x = mx_wh c v x := by
  constructor
  · exact decide_eq_true ⟨(pu_le (a := 0) (by decide) (by omega)).mpr (Nat.zero_le _), (pu_lt (b := 3) (by omega) (by decide)).mpr h⟩
  · have e : dgB (pu_I c) = mp_d c := by show mp_d (nn (pu_I c)) = _; rw [pu_nn (by omega)]
    unfold lb4 mx_wh
    rw [e]
/-- a while's row -/
theorem dw_wl (hx : xm < 2147483648) {h : Nat} {kk : ST → Int32 → Option (List Int32 × ST)} (hk : lw9 xm xf h kk) {w : ST} {t : md_S} (hm : mr9 w t) (hb : dk9 (3 * dL h + 20) t) (h3 : t.2.2.2 < 3) {P : Int32} (hP : P + 1 = pu_I (2 - h)) :
    ∃ w', ((fX13_draw w 4 xm xf).bind fun (o_44 : Int32 × ST) => (lt9 (upw (o_44.2) 0 3 (((o_44.2) 0 3) + 1)) fun (w46 : ST) => ((fX13_draw w46 4 xm xf).bind fun (o_48 : Int32 × ST) => (if pk0 0 (o_48.1) = true then ((fX13_draw (o_48.2) 2 xm xf).bind fun (o_51 : Int32 × ST) => (if ixb (1 + (o_51.1)) 3 = true then ((fLs kk (nn (1 + (o_51.1))) (o_51.2) (P + 1)).bind fun (o_53 : List Int32 × ST) => (if nk3 ((o_44.2) 0 3) = true then some ((lb4 ((o_44.2) 0 3) (pb0 0 (o_48.1)) (o_53.1)), (o_53.2)) else none)) else none)) else none)))) = some (mx_wh t.2.2.2 (dx xm xf (t.1 + 1) 4) (mx_many (md_line (dx xm xf) h) (mx_line (dx xm xf) h) (1 + dx xm xf (t.1 + 2) 2) (t.1 + 3, t.2.1, t.2.2.1, t.2.2.2 + 1)), w') ∧
      mr9 w' (md_many (md_line (dx xm xf) h) (1 + dx xm xf (t.1 + 2) 2) (t.1 + 3, t.2.1, t.2.2.1, t.2.2.2 + 1)).2 ∧
      (fun s' : md_S => s'.1 ≤ t.1 + (3 * dL h + 20) ∧ s'.2.1 ≤ t.2.1 + (3 * dL h + 20) ∧ s'.2.2.1 ≤ t.2.2.1 + (3 * dL h + 20) ∧ s'.2.2.2 ≤ 3) (md_many (md_line (dx xm xf) h) (1 + dx xm xf (t.1 + 2) 2) (t.1 + 3, t.2.1, t.2.2.1, t.2.2.2 + 1)).2 := by
  obtain ⟨b1, b2, b3, b4⟩ := hb
  obtain ⟨w1, d1, m1⟩ := dw_dr (xf := xf) hx hm (n := 4) (by omega) (by decide) (by decide)
  have d1' : fX13_draw w 4 xm xf = some (pu_I (dx xm xf t.1 4), w1) := d1
  rw [d1', Option.bind_some]
  dsimp only [lt9]
  have e3 : w1 0 3 = pu_I t.2.2.2 := m1.2.2.1
  simp only [e3, pu_su]
  have m2 : mr9 (upw w1 0 3 (pu_I (t.2.2.2 + 1))) (t.1 + 1, t.2.1, t.2.2.1, t.2.2.2 + 1) := ⟨m1.1, m1.2.1, rfl, m1.2.2.2⟩
  generalize upw w1 0 3 (pu_I (t.2.2.2 + 1)) = w2 at m2 ⊢
  obtain ⟨w3, d3, m3⟩ := dw_dr (xf := xf) hx m2 (n := 4) (by show t.1 + 1 < _; omega) (by decide) (by decide)
  have d3' : fX13_draw w2 4 xm xf = some (pu_I (dx xm xf (t.1 + 1) 4), w3) := d3
  have k3 := dx_lt (xm := xm) (xf := xf) (t.1 + 1) 4 (by decide)
  generalize dx xm xf (t.1 + 1) 4 = v at d3' k3 ⊢
  rw [d3', Option.bind_some]
  dsimp only
  obtain ⟨z1, z2⟩ := dw_pb (v := v) (by omega)
  rw [if_pos z1, z2]
  obtain ⟨w4, d4, m4⟩ := dw_dr (xf := xf) hx m3 (n := 2) (by show t.1 + 1 + 1 < _; omega) (by decide) (by decide)
  have d4' : fX13_draw w3 2 xm xf = some (pu_I (dx xm xf (t.1 + 2) 2), w4) := d4
  have k4 := dx_lt (xm := xm) (xf := xf) (t.1 + 2) 2 (by decide)
  generalize dx xm xf (t.1 + 2) 2 = k at d4' k4 ⊢
  rw [d4', Option.bind_some]
  dsimp only
  have e1 : (1 : Int32) + pu_I k = pu_I (1 + k) := (Int32.ofNat_add 1 k).symm
  rw [e1, if_pos ((pu_ix (k := 1 + k) (n := 3) (by omega)).mpr (by omega)), pu_nn (by omega), hP]
  have hkL : (1 + k) * dL h ≤ 2 * dL h := Nat.mul_le_mul_right _ (by omega)
  obtain ⟨w5, r5, m5, q1, q2, q3, q4⟩ := dw_many hk (1 + k) w4 (t.1 + 3, t.2.1, t.2.2.1, t.2.2.2 + 1) m4 ⟨by show t.1 + 3 + _ ≤ _; omega, by show t.2.1 + _ ≤ _; omega, by show t.2.2.1 + _ ≤ _; omega, by show t.2.2.2 + 1 ≤ 3; omega⟩
  rw [r5, Option.bind_some]
  dsimp only at q1 q2 q3 q4 ⊢
  obtain ⟨y1, y2⟩ := dw_n3 h3 v (mx_many (md_line (dx xm xf) h) (mx_line (dx xm xf) h) (1 + k) (t.1 + 3, t.2.1, t.2.2.1, t.2.2.2 + 1))
  rw [if_pos y1, y2]
  exact ⟨w5, rfl, m5, by omega, by omega, by omega, q4⟩
theorem dw_tl {dr : Nat → Nat → Nat} {inner fork : Bool} {sub : md_S → md_G × md_S} {subx : md_S → List Int32} {s : md_S} (hn : ¬ (fork = true ∧ (md_part dr 2 (s.1 + 1, s.2)).2.2.1 < 46 ∧ (md_part dr 2 (s.1 + 1, s.2)).2.2.2.1 < 8 ∧ 6 < dr s.1 10)) :
    mx_step dr inner fork sub subx s = (if dr s.1 10 = 5 ∧ inner = true then (if dr (md_part dr 2 (s.1 + 1, s.2)).2.1 4 = 0 then [114, 101, 116, 117, 114, 110, 32] ++ (mx_part dr 2 (s.1 + 1, s.2) ++ [59]) else mx_nm (dr ((md_part dr 2 (s.1 + 1, s.2)).2.1 + 1) 4) ++ ([61] ++ (mx_part dr 2 (s.1 + 1, s.2) ++ [59]))) else if dr s.1 10 = 6 then [91] ++ (mx_part dr 2 (s.1 + 1, s.2) ++ ([93, 61] ++ (mx_part dr 1 ((md_part dr 2 (s.1 + 1, s.2)).2.1 + 1, (md_part dr 2 (s.1 + 1, s.2)).2.2) ++ [59]))) else mx_nm (dr (md_part dr 2 (s.1 + 1, s.2)).2.1 4) ++ ([61] ++ (mx_part dr 2 (s.1 + 1, s.2) ++ [59]))) ∧
    (md_step dr inner fork sub s).2 = (if dr s.1 10 = 5 ∧ inner = true then ((md_part dr 2 (s.1 + 1, s.2)).2.1 + 2, (md_part dr 2 (s.1 + 1, s.2)).2.2) else if dr s.1 10 = 6 then (md_part dr 1 ((md_part dr 2 (s.1 + 1, s.2)).2.1 + 1, (md_part dr 2 (s.1 + 1, s.2)).2.2)).2 else ((md_part dr 2 (s.1 + 1, s.2)).2.1 + 1, (md_part dr 2 (s.1 + 1, s.2)).2.2)) := by
  unfold mx_step md_step
  generalize md_part dr 2 (s.1 + 1, s.2) = T at hn ⊢
  dsimp only
  rw [if_neg hn, if_neg hn]
  refine ⟨rfl, ?_⟩
  by_cases c5 : dr s.1 10 = 5 ∧ inner = true
  · rw [if_pos c5, if_pos c5]
    by_cases c0 : dr T.2.1 4 = 0
    · rw [if_pos c0]
    · rw [if_neg c0]
  · rw [if_neg c5, if_neg c5]
    by_cases c6 : dr s.1 10 = 6
    · rw [if_pos c6, if_pos c6]
    · rw [if_neg c6, if_neg c6]
theorem dw_hd (hx : xm < 2147483648) {w : ST} {s : md_S} (hm : mr9 w s) (hb : dk9 100 s) : ∃ w1 w2 v, fX13_draw w 10 xm xf = some (pu_I v, w1) ∧ v = dx xm xf s.1 10 ∧ v < 10 ∧ rP xm xf 3 w1 2 = some (mx_part (dx xm xf) 2 (s.1 + 1, s.2), w2) ∧ mr9 w2 (md_part (dx xm xf) 2 (s.1 + 1, s.2)).2 ∧
    ((md_part (dx xm xf) 2 (s.1 + 1, s.2)).2.1 ≤ s.1 + 25 ∧ (md_part (dx xm xf) 2 (s.1 + 1, s.2)).2.2.1 ≤ s.2.1 + 24 ∧ (md_part (dx xm xf) 2 (s.1 + 1, s.2)).2.2.2.1 ≤ s.2.2.1 + 24 ∧ (md_part (dx xm xf) 2 (s.1 + 1, s.2)).2.2.2.2 = s.2.2.2) := by
  obtain ⟨b1, b2, b3, b4⟩ := hb
  obtain ⟨w1, d1, m1⟩ := dw_dr (xf := xf) hx hm (n := 10) (by omega) (by decide) (by decide)
  have h24 : dX 2 = 24 := rfl
  obtain ⟨w2, d2, m2, q1, q2, q3⟩ := dw_part (xf := xf) hx 2 (by decide) w1 (s.1 + 1, s.2) m1 (by show s.1 + 1 + 24 ≤ _; omega) (by show s.2.1 + 24 ≤ _; omega) (by show s.2.2.1 + 24 ≤ _; omega)
  dsimp only at q1 q2 q3
  exact ⟨w1, w2, _, d1, rfl, dx_lt _ _ (by decide), d2, m2, by omega, by omega, by omega, dw_cn 2 (by decide) (s.1 + 1, s.2)⟩
theorem dw_l0 (hx : xm < 2147483648) : lw9 xm xf 0 (rN xm xf 1) := by
  intro w s hm hb
  have h100 : dL 0 = 100 := rfl
  rw [h100] at hb
  obtain ⟨w1, w2, v, d1, hve, hv, d2, m2, g1, g2, g3, g4⟩ := dw_hd (xf := xf) hx hm hb
  obtain ⟨b1, b2, b3, b4⟩ := hb
  obtain ⟨z1, z2⟩ := dw_tl (dr := dx xm xf) (inner := true) (fork := false) (sub := fun s => (id, s)) (subx := fun _ => []) (s := s) (fun q => by cases q.1)
  generalize md_part (dx xm xf) 2 (s.1 + 1, s.2) = T at m2 g1 g2 g3 g4 z1 z2
  generalize mx_part (dx xm xf) 2 (s.1 + 1, s.2) = x at d2 z1
  obtain ⟨w3, j1, j2, j3, j4, j5, j6⟩ := dw_J (xf := xf) hx (dp := 2) (x := x) (wd := w1) hv (by decide) m2 ⟨by omega, by omega, by omega, by omega⟩
  refine ⟨w3, ?_, ?_⟩
  · show fX13_line (fun w a b => fLs (rN xm xf 0) (nn b) w a) xm xf w (pu_I 2) = some (mx_step (dx xm xf) true false (fun s => (id, s)) (fun _ => []) s, w3)
    unfold fX13_line
    rw [d1, Option.bind_some, d2, Option.bind_some, if_pos (show (2 : Int32) ≤ pu_I 2 by decide), z1, ← hve]
    exact j1
  · have e : (md_line (dx xm xf) 0 s).2 = (md_step (dx xm xf) true false (fun s => (id, s)) s).2 := rfl
    rw [e, z2, ← hve]
    have e2 : decide (0 < 2) = true := rfl
    rw [e2] at j2 j3 j4 j5 j6
    refine ⟨j2, ?_, ?_, ?_, ?_⟩
    · rw [h100]; omega
    · rw [h100]; omega
    · rw [h100]; omega
    · omega
theorem dw_ls (hx : xm < 2147483648) {h : Nat} (hh : h ≤ 1) (ih : lw9 xm xf h (rN xm xf (h + 1))) : lw9 xm xf (h + 1) (rN xm xf (h + 2)) := by
  intro w s hm hb
  have hL : dL (h + 1) = 3 * dL h + 100 := rfl
  rw [hL] at hb
  obtain ⟨w1, w2, v, d1, hve, hv, d2, m2, g1, g2, g3, g4⟩ := dw_hd (xf := xf) hx hm ⟨by have := hb.1; omega, by have := hb.2.1; omega, by have := hb.2.2.1; omega, hb.2.2.2⟩
  obtain ⟨b1, b2, b3, b4⟩ := hb
  have eP : pu_I (2 - (h + 1)) + 1 = pu_I (2 - h) := by
    rw [pu_su]
    exact congrArg pu_I (by omega)
  have n2 : ¬ (2 : Int32) ≤ pu_I (2 - (h + 1)) := fun e => by
    have := (pu_le (a := 2) (b := 2 - (h + 1)) (by decide) (by omega)).mp e
    omega
  have in9 : decide (h = 0) = decide (0 < 2 - (h + 1)) := by
    rcases (by omega : h = 0 ∨ h = 1) with e | e <;> subst e <;> rfl
  have eF : ∀ w', fX13_line (fun w a b => fLs (rN xm xf (h + 1)) (nn b) w a) xm xf w (pu_I (2 - (h + 1))) = some (mx_step (dx xm xf) (decide (h = 0)) true (md_line (dx xm xf) h) (mx_line (dx xm xf) h) s, w') → rN xm xf (h + 2) w (pu_I (2 - (h + 1))) = some (mx_line (dx xm xf) (h + 1) s, w') := fun w' q => q
  have eM : (md_line (dx xm xf) (h + 1) s).2 = (md_step (dx xm xf) (decide (h = 0)) true (md_line (dx xm xf) h) s).2 := rfl
  have e46 : (w2 0 2) ≤ 0 ↔ 46 ≤ (md_part (dx xm xf) 2 (s.1 + 1, s.2)).2.2.1 := by
    rw [m2.2.1]
    exact sb_le (a := 46) (by decide) (by omega)
  have e8 : (8 : Int32) ≤ (w2 0 4) ↔ 8 ≤ (md_part (dx xm xf) 2 (s.1 + 1, s.2)).2.2.2.1 := by
    rw [m2.2.2.2]
    exact pu_le (a := 8) (by decide) (by omega)
  have e6 : pu_I v ≤ 6 ↔ v ≤ 6 := pu_le (b := 6) (by omega) (by decide)
  by_cases cf : (md_part (dx xm xf) 2 (s.1 + 1, s.2)).2.2.1 < 46 ∧ (md_part (dx xm xf) 2 (s.1 + 1, s.2)).2.2.2.1 < 8 ∧ 6 < v
  · have cf2 : true = true ∧ (md_part (dx xm xf) 2 (s.1 + 1, s.2)).2.2.1 < 46 ∧ (md_part (dx xm xf) 2 (s.1 + 1, s.2)).2.2.2.1 < 8 ∧ 6 < dx xm xf s.1 10 := ⟨rfl, cf.1, cf.2.1, by rw [← hve]; exact cf.2.2⟩
    have x1 : ∀ w', fX13_line (fun w a b => fLs (rN xm xf (h + 1)) (nn b) w a) xm xf w (pu_I (2 - (h + 1))) = some ((if dx xm xf s.1 10 = 9 ∧ (md_part (dx xm xf) 2 (s.1 + 1, s.2)).2.2.2.2 < 3 then
        mx_wh (md_part (dx xm xf) 2 (s.1 + 1, s.2)).2.2.2.2 (dx xm xf ((md_part (dx xm xf) 2 (s.1 + 1, s.2)).2.1 + 1) 4) (mx_many (md_line (dx xm xf) h) (mx_line (dx xm xf) h) (1 + dx xm xf ((md_part (dx xm xf) 2 (s.1 + 1, s.2)).2.1 + 2) 2) ((md_part (dx xm xf) 2 (s.1 + 1, s.2)).2.1 + 3, (md_part (dx xm xf) 2 (s.1 + 1, s.2)).2.2.1, (md_part (dx xm xf) 2 (s.1 + 1, s.2)).2.2.2.1 + 1, (md_part (dx xm xf) 2 (s.1 + 1, s.2)).2.2.2.2 + 1))
      else
        (fun (F : md_G × md_S) (fx : List Int32) => (if dx xm xf F.2.1 2 = 0 then [105, 102, 32] ++ (mx_part (dx xm xf) 2 (s.1 + 1, s.2) ++ ([123] ++ (fx ++ [125])))
          else [105, 102, 32] ++ (mx_part (dx xm xf) 2 (s.1 + 1, s.2) ++ ([123] ++ (fx ++ ([125] ++ ([101, 108, 115, 101, 123] ++ (mx_many (md_line (dx xm xf) h) (mx_line (dx xm xf) h) 1 (F.2.1 + 1, F.2.2) ++ [125]))))))))
          (md_many (md_line (dx xm xf) h) (1 + dx xm xf ((md_part (dx xm xf) 2 (s.1 + 1, s.2)).2.1 + 1) 2) ((md_part (dx xm xf) 2 (s.1 + 1, s.2)).2.1 + 2, (md_part (dx xm xf) 2 (s.1 + 1, s.2)).2.2.1, (md_part (dx xm xf) 2 (s.1 + 1, s.2)).2.2.2.1 + 1, (md_part (dx xm xf) 2 (s.1 + 1, s.2)).2.2.2.2)) (mx_many (md_line (dx xm xf) h) (mx_line (dx xm xf) h) (1 + dx xm xf ((md_part (dx xm xf) 2 (s.1 + 1, s.2)).2.1 + 1) 2) ((md_part (dx xm xf) 2 (s.1 + 1, s.2)).2.1 + 2, (md_part (dx xm xf) 2 (s.1 + 1, s.2)).2.2.1, (md_part (dx xm xf) 2 (s.1 + 1, s.2)).2.2.2.1 + 1, (md_part (dx xm xf) 2 (s.1 + 1, s.2)).2.2.2.2))), w') → rN xm xf (h + 2) w (pu_I (2 - (h + 1))) = some (mx_line (dx xm xf) (h + 1) s, w') := by
      intro w' q
      refine eF w' (q.trans ?_)
      unfold mx_step
      dsimp only
      rw [if_pos cf2]
    have x2 : (md_line (dx xm xf) (h + 1) s).2 = (if dx xm xf s.1 10 = 9 ∧ (md_part (dx xm xf) 2 (s.1 + 1, s.2)).2.2.2.2 < 3 then
        (md_many (md_line (dx xm xf) h) (1 + dx xm xf ((md_part (dx xm xf) 2 (s.1 + 1, s.2)).2.1 + 2) 2) ((md_part (dx xm xf) 2 (s.1 + 1, s.2)).2.1 + 3, (md_part (dx xm xf) 2 (s.1 + 1, s.2)).2.2.1, (md_part (dx xm xf) 2 (s.1 + 1, s.2)).2.2.2.1 + 1, (md_part (dx xm xf) 2 (s.1 + 1, s.2)).2.2.2.2 + 1)).2
      else (fun (F : md_G × md_S) => if dx xm xf F.2.1 2 = 0 then (F.2.1 + 1, F.2.2) else (md_many (md_line (dx xm xf) h) 1 (F.2.1 + 1, F.2.2)).2) (md_many (md_line (dx xm xf) h) (1 + dx xm xf ((md_part (dx xm xf) 2 (s.1 + 1, s.2)).2.1 + 1) 2) ((md_part (dx xm xf) 2 (s.1 + 1, s.2)).2.1 + 2, (md_part (dx xm xf) 2 (s.1 + 1, s.2)).2.2.1, (md_part (dx xm xf) 2 (s.1 + 1, s.2)).2.2.2.1 + 1, (md_part (dx xm xf) 2 (s.1 + 1, s.2)).2.2.2.2))) := by
      rw [eM]
      unfold md_step
      generalize md_part (dx xm xf) 2 (s.1 + 1, s.2) = T at cf2 ⊢
      dsimp only
      rw [if_pos cf2]
      by_cases c9 : dx xm xf s.1 10 = 9 ∧ T.2.2.2.2 < 3
      · rw [if_pos c9, if_pos c9]
      · rw [if_neg c9, if_neg c9]
        generalize md_many (md_line (dx xm xf) h) (1 + dx xm xf (T.2.1 + 1) 2) (T.2.1 + 2, T.2.2.1, T.2.2.2.1 + 1, T.2.2.2.2) = F
        by_cases c2 : dx xm xf F.2.1 2 = 0
        · rw [if_pos c2, if_pos c2]
        · rw [if_neg c2, if_neg c2]
    rw [x2, ← hve]
    rw [← hve] at x1
    generalize md_part (dx xm xf) 2 (s.1 + 1, s.2) = T at m2 g1 g2 g3 g4 x1 e46 e8 cf ⊢
    generalize mx_part (dx xm xf) 2 (s.1 + 1, s.2) = x at d2 x1
    have n46 : ¬ (w2 0 2) ≤ 0 := fun e => by have := e46.mp e; omega
    have n8 : ¬ (8 : Int32) ≤ (w2 0 4) := fun e => by have := e8.mp e; omega
    have n6 : ¬ pu_I v ≤ 6 := fun e => by have := e6.mp e; omega
    have n5 : ¬ pu_I v = 5 := fun e => absurd (pu_inj (a := v) (b := 5) (by omega) (by decide) e) (by omega)
    have m3 : mr9 (upw w2 0 4 (w2 0 4 + 1)) (T.2.1, T.2.2.1, T.2.2.2.1 + 1, T.2.2.2.2) := ⟨m2.1, m2.2.1, m2.2.2.1, by show w2 0 4 + 1 = pu_I (T.2.2.2.1 + 1); rw [m2.2.2.2, pu_su]⟩
    have hd0 : dk9 (3 * dL h + 20) (T.2.1, T.2.2.1, T.2.2.2.1 + 1, T.2.2.2.2) := ⟨by show T.2.1 + _ ≤ _; omega, by show T.2.2.1 + _ ≤ _; omega, by show T.2.2.2.1 + 1 + _ ≤ _; omega, by show T.2.2.2.2 ≤ 3; omega⟩
    have hw3 : upw w2 0 4 (w2 0 4 + 1) 0 3 = pu_I T.2.2.2.2 := m3.2.2.1
    have x3 : ∀ {o}, (if pu_I v = 9 then (if 3 ≤ (upw w2 0 4 (w2 0 4 + 1) 0 3) then ((fX13_draw (upw w2 0 4 (w2 0 4 + 1)) 4 xm xf).bind fun (o_33 : Int32 × ST) => ((fX13_draw (o_33.2) 2 xm xf).bind fun (o_35 : Int32 × ST) => (if ixb (1 + (o_35.1)) 3 = true then ((fLs (rN xm xf (h + 1)) (nn (1 + (o_35.1))) (o_35.2) (pu_I (2 - (h + 1)) + 1)).bind fun (o_37 : List Int32 × ST) => ((fX13_draw (o_37.2) 2 xm xf).bind fun (o_38 : Int32 × ST) => (if (o_38.1) = 0 then some ((lb2 x (o_37.1)), (o_38.2)) else ((fLs (rN xm xf (h + 1)) (nn 1) (o_38.2) (pu_I (2 - (h + 1)) + 1)).bind fun (o_42 : List Int32 × ST) => some ((lb3 x (o_37.1) (o_42.1)), (o_42.2)))))) else none)))
        else ((fX13_draw (upw w2 0 4 (w2 0 4 + 1)) 4 xm xf).bind fun (o_44 : Int32 × ST) => (lt9 (upw (o_44.2) 0 3 (((o_44.2) 0 3) + 1)) fun (w46 : ST) => ((fX13_draw w46 4 xm xf).bind fun (o_48 : Int32 × ST) => (if pk0 0 (o_48.1) = true then ((fX13_draw (o_48.2) 2 xm xf).bind fun (o_51 : Int32 × ST) => (if ixb (1 + (o_51.1)) 3 = true then ((fLs (rN xm xf (h + 1)) (nn (1 + (o_51.1))) (o_51.2) (pu_I (2 - (h + 1)) + 1)).bind fun (o_53 : List Int32 × ST) => (if nk3 ((o_44.2) 0 3) = true then some ((lb4 ((o_44.2) 0 3) (pb0 0 (o_48.1)) (o_53.1)), (o_53.2)) else none)) else none)) else none)))))
        else ((fX13_draw (upw w2 0 4 (w2 0 4 + 1)) 4 xm xf).bind fun (o_33 : Int32 × ST) => ((fX13_draw (o_33.2) 2 xm xf).bind fun (o_35 : Int32 × ST) => (if ixb (1 + (o_35.1)) 3 = true then ((fLs (rN xm xf (h + 1)) (nn (1 + (o_35.1))) (o_35.2) (pu_I (2 - (h + 1)) + 1)).bind fun (o_37 : List Int32 × ST) => ((fX13_draw (o_37.2) 2 xm xf).bind fun (o_38 : Int32 × ST) => (if (o_38.1) = 0 then some ((lb2 x (o_37.1)), (o_38.2)) else ((fLs (rN xm xf (h + 1)) (nn 1) (o_38.2) (pu_I (2 - (h + 1)) + 1)).bind fun (o_42 : List Int32 × ST) => some ((lb3 x (o_37.1) (o_42.1)), (o_42.2)))))) else none)))) = some o → fX13_line (fun w a b => fLs (rN xm xf (h + 1)) (nn b) w a) xm xf w (pu_I (2 - (h + 1))) = some o := by
      intro o q
      unfold fX13_line
      rw [d1, Option.bind_some, d2, Option.bind_some, if_neg n2, if_neg n46, if_neg n8, if_neg n6]
      dsimp only [lt9]
      rw [if_neg n5, if_neg n5]
      exact q
    have m4 := dw_fi hx ih m3 hd0 eP x
    by_cases c9 : v = 9
    · by_cases c3 : T.2.2.2.2 < 3
      · have c93 : v = 9 ∧ T.2.2.2.2 < 3 := ⟨c9, c3⟩
        obtain ⟨w3, r3, k3, k4, k5, k6, k7⟩ := dw_wl hx ih m3 hd0 c3 eP
        rw [if_pos c93]
        refine ⟨w3, x1 w3 ?_, k3, ?_⟩
        · refine x3 ?_
          have n3 : ¬ (3 : Int32) ≤ (upw w2 0 4 (w2 0 4 + 1) 0 3) := fun e => by
            rw [hw3] at e
            have := (pu_le (a := 3) (b := T.2.2.2.2) (by decide) (by omega)).mp e
            omega
          rw [if_pos (show pu_I v = 9 by rw [c9]; rfl), if_neg n3, if_pos c93]
          exact r3
        · dsimp only at k4 k5 k6 k7
          refine ⟨?_, ?_, ?_, k7⟩ <;> (rw [hL]; omega)
      · have c93 : ¬ (v = 9 ∧ T.2.2.2.2 < 3) := fun e => c3 e.2
        obtain ⟨w3, r3, k3, k4, k5, k6, k7⟩ := m4
        rw [if_neg c93]
        refine ⟨w3, x1 w3 ?_, k3, ?_⟩
        · refine x3 ?_
          have p3 : (3 : Int32) ≤ (upw w2 0 4 (w2 0 4 + 1) 0 3) := by
            rw [hw3]
            exact (pu_le (a := 3) (b := T.2.2.2.2) (by decide) (by omega)).mpr (by omega)
          rw [if_pos (show pu_I v = 9 by rw [c9]; rfl), if_pos p3, if_neg c93]
          exact r3
        · dsimp only at k4 k5 k6 k7 ⊢
          refine ⟨?_, ?_, ?_, k7⟩ <;> (rw [hL]; omega)
    · have c93 : ¬ (v = 9 ∧ T.2.2.2.2 < 3) := fun e => c9 e.1
      obtain ⟨w3, r3, k3, k4, k5, k6, k7⟩ := m4
      rw [if_neg c93]
      refine ⟨w3, x1 w3 ?_, k3, ?_⟩
      · refine x3 ?_
        rw [if_neg (show ¬ pu_I v = 9 from fun e => c9 (pu_inj (by omega) (by decide) (e.trans (rfl : (9 : Int32) = pu_I 9)))), if_neg c93]
        exact r3
      · dsimp only at k4 k5 k6 k7 ⊢
        refine ⟨?_, ?_, ?_, k7⟩ <;> (rw [hL]; omega)
  · obtain ⟨z1, z2⟩ := dw_tl (dr := dx xm xf) (inner := decide (h = 0)) (fork := true) (sub := md_line (dx xm xf) h) (subx := mx_line (dx xm xf) h) (s := s) (fun q => cf ⟨q.2.1, q.2.2.1, by rw [hve]; exact q.2.2.2⟩)
    rw [eM, z2, ← hve]
    rw [z1, ← hve] at eF
    generalize md_part (dx xm xf) 2 (s.1 + 1, s.2) = T at m2 g1 g2 g3 g4 eF e46 e8 cf ⊢
    generalize mx_part (dx xm xf) 2 (s.1 + 1, s.2) = x at d2 eF
    obtain ⟨w3, j1, j2, j3, j4, j5, j6⟩ := dw_J (xf := xf) hx (dp := 2 - (h + 1)) (x := x) (wd := w1) hv (by omega) m2 ⟨by omega, by omega, by omega, by omega⟩
    rw [← in9] at j1 j2 j3 j4 j5 j6
    refine ⟨w3, eF w3 ?_, j2, ?_, ?_, ?_, by omega⟩
    · unfold fX13_line
      rw [d1, Option.bind_some, d2, Option.bind_some, if_neg n2]
      by_cases c46 : (w2 0 2) ≤ 0
      · rw [if_pos c46]; exact j1
      rw [if_neg c46]
      by_cases c8 : (8 : Int32) ≤ (w2 0 4)
      · rw [if_pos c8]; exact j1
      rw [if_neg c8]
      have c6 : pu_I v ≤ 6 := e6.mpr (by
        have a1 : ¬ 46 ≤ T.2.2.1 := fun q => c46 (e46.mpr q)
        have a2 : ¬ 8 ≤ T.2.2.2.1 := fun q => c8 (e8.mpr q)
        omega)
      rw [if_pos c6]
      exact j1
    · rw [hL]; omega
    · rw [hL]; omega
    · rw [hL]; omega
/-- LINES ARE DRAWN AS md_line AND PRINT mx_line -/
theorem dw_line (hx : xm < 2147483648) : lw9 xm xf 2 (rN xm xf 3) := dw_ls hx (by decide) (dw_ls hx (by decide) (dw_l0 hx))
end DLN
