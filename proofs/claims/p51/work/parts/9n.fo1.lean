/-! pure side, stores 44: fold: what is learnt -/
def pv_fv (g : ST) : Prop := ∀ v, v < 250 → g 4 v = 0 ∨ g 4 v = 1 ∨ g 4 v = 2
def pv_lc (g : ST) : Nat := ((List.range 250).filter (fun v => decide (g 4 v ≠ 0))).length + ((List.range 250).filter (fun v => decide (g 4 v = 2))).length
/-- what one act of learning does to the tables: nothing, or it goes up -/
def pv_lr (r : Int32) (g : ST) (r' : Int32) (g' : ST) : Prop :=
  (r' = 0 ∨ r' = 1) ∧ (∀ q, q ≠ 4 → q ≠ 5 → g' q = g q) ∧ (pv_fv g → pv_fv g') ∧ (∀ v, v < 250 → (g 4 v ≠ 0 → g' 4 v ≠ 0) ∧ (g 4 v = 2 → g' 4 v = 2)) ∧ (r' = 0 → r = 0 ∧ g' = g) ∧ (r' ≠ 0 → r = 0 → pv_lc g < pv_lc g')
theorem pv_lc_le (g : ST) : pv_lc g ≤ 500 := by
  unfold pv_lc
  have h1 := List.length_filter_le (fun v => decide (g 4 v ≠ 0)) (List.range 250)
  have h2 := List.length_filter_le (fun v => decide (g 4 v = 2)) (List.range 250)
  rw [List.length_range] at h1 h2
  omega
theorem pv_lc_mo {g g' : ST} (h : ∀ v, v < 250 → (g 4 v ≠ 0 → g' 4 v ≠ 0) ∧ (g 4 v = 2 → g' 4 v = 2)) : pv_lc g ≤ pv_lc g' := by
  have h1 := pv_flt (p := fun v => decide (g' 4 v ≠ 0)) (q := fun v => decide (g 4 v ≠ 0)) (List.range 250) (fun x hx hq => decide_eq_true ((h x (List.mem_range.mp hx)).1 (of_decide_eq_true hq)))
  have h2 := pv_flt (p := fun v => decide (g' 4 v = 2)) (q := fun v => decide (g 4 v = 2)) (List.range 250) (fun x hx hq => decide_eq_true ((h x (List.mem_range.mp hx)).2 (of_decide_eq_true hq)))
  unfold pv_lc
  omega
theorem pv_lr_rf {r : Int32} {g : ST} (h : r = 0 ∨ r = 1) : pv_lr r g r g := ⟨h, fun _ _ _ => rfl, fun h => h, fun _ _ => ⟨fun h => h, fun h => h⟩, fun h => ⟨h, rfl⟩, fun h1 h2 => absurd h2 h1⟩
theorem pv_lr_tr {r r1 r2 : Int32} {g g1 g2 : ST} (h1 : pv_lr r g r1 g1) (h2 : pv_lr r1 g1 r2 g2) : pv_lr r g r2 g2 := by
  obtain ⟨a1, a2, a3, a4, a5, a6⟩ := h1
  obtain ⟨b1, b2, b3, b4, b5, b6⟩ := h2
  refine ⟨b1, fun q q4 q5 => by rw [b2 q q4 q5, a2 q q4 q5], fun h => b3 (a3 h), fun v hv => ⟨fun h => (b4 v hv).1 ((a4 v hv).1 h), fun h => (b4 v hv).2 ((a4 v hv).2 h)⟩, fun h => ?_, fun h hr => ?_⟩
  · obtain ⟨c1, c2⟩ := b5 h
    obtain ⟨c3, c4⟩ := a5 c1
    exact ⟨c3, c2.trans c4⟩
  · have m2 := pv_lc_mo b4
    have m1 := pv_lc_mo a4
    by_cases e : r1 = 0
    · have := b6 h e
      omega
    · have := a6 e hr
      omega
/-- one act more, and whether any brought something -/
theorem pv_lr_or {r o : Int32} {g g' : ST} (hr : r = 0 ∨ r = 1) (h : pv_lr 0 g o g') : pv_lr r g (if o = 0 then r else 1) g' := by
  obtain ⟨a1, a2, a3, a4, a5, a6⟩ := h
  by_cases e : o = 0
  · rw [if_pos e]
    exact ⟨hr, a2, a3, a4, fun h => ⟨h, (a5 e).2⟩, fun h1 h2 => absurd h2 h1⟩
  · rw [if_neg e]
    exact ⟨Or.inr rfl, a2, a3, a4, fun h => absurd h (by decide), fun _ _ => a6 e rfl⟩
theorem pv_learn {g : ST} {v p2 p3 : Int32} (hv : ixb v 250 = true) (hp : p2 = 1 ∨ p2 = 2) :
    ∃ r g', fX5_learn g v p2 p3 = some (r, g') ∧ pv_lr 0 g r g' ∧ (r = 0 → g 4 (nn v) = 2 ∨ (g 4 (nn v) = 1 ∨ ¬ pv_fv g) ∧ p2 = 1 ∧ g 5 (nn v) = p3) := by
  have hv250 := (pv_ixn hv).2
  have hp0 : p2 ≠ 0 := by rcases hp with rfl | rfl <;> decide
  unfold fX5_learn fX5_learn_J54
  rw [if_pos hv]
  by_cases h2 : g 4 (nn v) = 2
  · rw [if_pos h2]
    exact ⟨0, g, rfl, pv_lr_rf (Or.inl rfl), fun _ => Or.inl h2⟩
  · rw [if_neg h2, if_pos hv]
    by_cases h0 : g 4 (nn v) = 0
    · rw [if_pos h0, if_pos hv]
      simp only [lt9]
      rw [if_pos hv]
      have q4 : ∀ u, upw (upw g 4 (nn v) p2) 5 (nn v) p3 4 u = if u = nn v then p2 else g 4 u := fun u => by
        rw [pv_upw_n (by decide), pv_upw]
        by_cases e : u = nn v
        · rw [if_pos ⟨rfl, e⟩, if_pos e]
        · rw [if_neg fun c => e c.2, if_neg e]
      refine ⟨1, _, rfl, ⟨Or.inr rfl, fun q a b => by rw [pv_upw_n b, pv_upw_n a], fun hf u hu => ?_, fun u hu => ⟨fun h => ?_, fun h => ?_⟩, fun h => absurd h (by decide), fun _ _ => ?_⟩, fun h => absurd h (by decide)⟩
      · rw [q4]
        by_cases e : u = nn v
        · rw [if_pos e]; exact Or.inr hp
        · rw [if_neg e]; exact hf u hu
      · rw [q4]
        by_cases e : u = nn v
        · rw [if_pos e]; exact hp0
        · rw [if_neg e]; exact h
      · rw [q4]
        by_cases e : u = nn v
        · rw [e] at h; exact absurd h h2
        · rw [if_neg e]; exact h
      · have k1 := pv_flt_lt (p := fun u => decide (upw (upw g 4 (nn v) p2) 5 (nn v) p3 4 u ≠ 0)) (q := fun u => decide (g 4 u ≠ 0)) (List.range 250) (fun u hu hq => by
          have hq := of_decide_eq_true hq
          rw [decide_eq_true_iff, q4]
          by_cases e : u = nn v
          · rw [if_pos e]; exact hp0
          · rw [if_neg e]; exact hq) ⟨nn v, List.mem_range.mpr hv250, by rw [decide_eq_true_iff, q4, if_pos rfl]; exact hp0, by rw [decide_eq_false_iff_not]; exact fun h => h h0⟩
        have k2 := pv_flt (p := fun u => decide (upw (upw g 4 (nn v) p2) 5 (nn v) p3 4 u = 2)) (q := fun u => decide (g 4 u = 2)) (List.range 250) (fun u hu hq => by
          have hq := of_decide_eq_true hq
          rw [decide_eq_true_iff, q4]
          by_cases e : u = nn v
          · rw [e] at hq; exact absurd hq h2
          · rw [if_neg e]; exact hq)
        unfold pv_lc
        omega
    · rw [if_neg h0]
      have hvary : ∀ (P : Prop), ∃ r g', (if ixb v 250 = true then (lt9 (upw g 4 (nn v) 2) fun (w10 : ST) => some ((1 : Int32), w10)) else none) = some (r, g') ∧ pv_lr 0 g r g' ∧ (r = 0 → P) := by
        intro P
        rw [if_pos hv]
        simp only [lt9]
        have q4 : ∀ u, upw g 4 (nn v) 2 4 u = if u = nn v then 2 else g 4 u := fun u => by
          rw [pv_upw]
          by_cases e : u = nn v
          · rw [if_pos ⟨rfl, e⟩, if_pos e]
          · rw [if_neg fun c => e c.2, if_neg e]
        refine ⟨1, _, rfl, ⟨Or.inr rfl, fun q a b => pv_upw_n a, fun hf u hu => ?_, fun u hu => ⟨fun h => ?_, fun h => ?_⟩, fun h => absurd h (by decide), fun _ _ => ?_⟩, fun h => absurd h (by decide)⟩
        · rw [q4]
          by_cases e : u = nn v
          · rw [if_pos e]; exact Or.inr (Or.inr rfl)
          · rw [if_neg e]; exact hf u hu
        · rw [q4]
          by_cases e : u = nn v
          · rw [if_pos e]; decide
          · rw [if_neg e]; exact h
        · rw [q4]
          by_cases e : u = nn v
          · rw [if_pos e]
          · rw [if_neg e]; exact h
        · have k1 := pv_flt (p := fun u => decide (upw g 4 (nn v) 2 4 u ≠ 0)) (q := fun u => decide (g 4 u ≠ 0)) (List.range 250) (fun u hu hq => by
            have hq := of_decide_eq_true hq
            rw [decide_eq_true_iff, q4]
            by_cases e : u = nn v
            · rw [if_pos e]; decide
            · rw [if_neg e]; exact hq)
          have k2 := pv_flt_lt (p := fun u => decide (upw g 4 (nn v) 2 4 u = 2)) (q := fun u => decide (g 4 u = 2)) (List.range 250) (fun u hu hq => by
            have hq := of_decide_eq_true hq
            rw [decide_eq_true_iff, q4]
            by_cases e : u = nn v
            · rw [if_pos e]
            · rw [if_neg e]; exact hq) ⟨nn v, List.mem_range.mpr hv250, by rw [decide_eq_true_iff, q4, if_pos rfl], by rw [decide_eq_false_iff_not]; exact h2⟩
          unfold pv_lc
          omega
      by_cases h1 : p2 = 1
      · rw [if_pos h1, if_pos hv]
        by_cases h5 : g 5 (nn v) = p3
        · rw [if_pos h5]
          refine ⟨0, g, rfl, pv_lr_rf (Or.inl rfl), fun _ => Or.inr ⟨?_, h1, h5⟩⟩
          by_cases hf : pv_fv g
          · exact Or.inl (((hf _ hv250).resolve_left h0).resolve_right h2)
          · exact Or.inr hf
        · rw [if_neg h5]
          exact hvary _
      · rw [if_neg h1]
        exact hvary _
def pv_iw (g : ST) (x : Int64) (w : ST) (p : Nat) (q : Int32) : Bool := pv_bt x p && (if w 8 p = 23 then (if g 4 (nn (w 9 p)) = 1 then decide ((if g 5 (nn (w 9 p)) = 0 then w 11 p else w 10 p) = q) else decide (g 4 (nn (w 9 p)) = 2)) else true)
section FL
variable {n n2 : Nat → Nat} {w w2 : ST} {B N M : Nat} {ch ph : Nat → List Nat} {wb : Nat → Nat}
theorem pv_isWay {g : ST} {l : SL} (hB : B ≤ 60) {p : Nat} (hp : p < B) (hev : w 8 p = 23 → ixb (w 9 p) 250 = true) (q : Int32) : fX5_isWay g l w (pu_I p) q = some (pv_b (pv_iw g (l 0 7) w p q)) := by
  have h60 : ixb (pu_I p) 60 = true := (pu_ix (by omega)).mpr (by omega)
  unfold fX5_isWay fX5_isWay_J87 fX5_isWay_J96 fX5_isWay_J61 pv_iw
  rw [pv_holds (by omega), Option.bind_some]
  cases hb : pv_bt (l 0 7) p with
  | false =>
    rw [if_pos (by decide)]
    rfl
  | true =>
    rw [if_neg (by decide), if_pos h60, pu_nn (by omega)]
    by_cases h23 : w 8 p = 23
    · rw [if_pos h23, if_pos h60, if_pos (hev h23), if_pos h23]
      by_cases h1 : g 4 (nn (w 9 p)) = 1
      · rw [if_pos h1, if_pos (hev h23), if_pos h1]
        by_cases h0 : g 5 (nn (w 9 p)) = 0
        · rw [if_pos h0, if_pos h60, if_pos h0]
          by_cases e : w 11 p = q
          · rw [if_pos e, if_pos (by decide), decide_eq_true e]; rfl
          · rw [if_neg e, if_pos (by decide), decide_eq_false e]; rfl
        · rw [if_neg h0, if_pos h60, if_neg h0]
          by_cases e : w 10 p = q
          · rw [if_pos e, if_pos (by decide), decide_eq_true e]; rfl
          · rw [if_neg e, if_pos (by decide), decide_eq_false e]; rfl
      · rw [if_neg h1, if_pos (hev h23), if_neg h1]
        by_cases e : g 4 (nn (w 9 p)) = 2
        · rw [if_pos e, if_pos (by decide), decide_eq_true e]; rfl
        · rw [if_neg e, if_pos (by decide), decide_eq_false e]; rfl
    · rw [if_neg h23, if_neg h23]
      rfl
/-- what a phi tells where nothing is learnt -/
def pv_cfp (w g : ST) (x : Int64) (wb : Nat → Nat) (b a : Nat) : Prop := ∀ j, wb b ≤ j → j < wb (b + 1) → pv_iw g x w (nn (w 15 j)) (pu_I b) = true →
  g 4 (nn (pv_tv w a j)) = 0 ∨ g 4 (nn (w 19 a)) = 2 ∨ (g 4 (nn (w 19 a)) = 1 ∧ g 4 (nn (pv_tv w a j)) = 1 ∧ g 5 (nn (w 19 a)) = g 5 (nn (pv_tv w a j)))
theorem pv_learnPhi {g : ST} {l : SL} (hfv : pv_fv g) (hok : pv_ok n w n2 w2 B N M ch ph) (hw : pv_wys B w wb) (htk : pv_tk B w wb ph) (hev : ∀ p, p < B → w 8 p = 23 → ixb (w 9 p) 250 = true) {b a : Nat} (hb : b < B) (ha : a ∈ ph b) :
    ∃ r g', fX5_learnPhi g l n w (pu_I b) (pu_I a) = some (r, g') ∧ pv_lr 0 g r g' ∧ (r = 0 → pv_cfp w g (l 0 7) wb b a) := by
  obtain ⟨⟨hw0, hB0, hB⟩, _, ⟨hM19, hM20, hM21, hM⟩, _, _, hph, hdp, hix, _⟩ := id hok
  have haM := hdp.1 b hb a ha
  have h120 := hw.2.2.1 (b + 1) (by omega)
  have hmo := hw.2.1 b hb
  obtain ⟨t, e1, e2, e3⟩ := pv_for (G := fun k x (t : Int32 × ST) => fX5_learnPhi_L6 l n w (pu_I b) (pu_I a) k t.1 x t.2) (hi := wb (b + 1) - wb b)
    (Inv := fun i (t : Int32 × ST) => pv_lr 0 g t.1 t.2 ∧ (t.1 = 0 → ∀ j, wb b ≤ j → j < wb b + i → pv_iw g (l 0 7) w (nn (w 15 j)) (pu_I b) = true → g 4 (nn (pv_tv w a j)) = 0 ∨ g 4 (nn (w 19 a)) = 2 ∨ (g 4 (nn (w 19 a)) = 1 ∧ g 4 (nn (pv_tv w a j)) = 1 ∧ g 5 (nn (w 19 a)) = g 5 (nn (pv_tv w a j)))))
    (Q := fun t : Int32 × ST => pv_lr 0 g t.1 t.2 ∧ (t.1 = 0 → ∀ j, wb b ≤ j → j < wb b + (wb (b + 1) - wb b) → pv_iw g (l 0 7) w (nn (w 15 j)) (pu_I b) = true → g 4 (nn (pv_tv w a j)) = 0 ∨ g 4 (nn (w 19 a)) = 2 ∨ (g 4 (nn (w 19 a)) = 1 ∧ g 4 (nn (pv_tv w a j)) = 1 ∧ g 5 (nn (w 19 a)) = g 5 (nn (pv_tv w a j)))))
    (fun k i t hi hI => by
      obtain ⟨i1, i2⟩ := hI
      have hfv1 : pv_fv t.2 := i1.2.2.1 hfv
      obtain ⟨p, p1, p2, p3⟩ := hw.2.2.2.1 b (wb b + i) hb (by omega) (by omega)
      have hpn : nn (w 15 (wb b + i)) = p := by rw [p2, pu_nn (by omega)]
      have htv : pv_tv w a (wb b + i) = w 21 (a * 60 + p) := by unfold pv_tv; rw [hpn]
      have hx := htk b hb a ha (wb b + i) (by omega) (by omega)
      rw [hpn] at hx
      have h19 : ixb (pu_I a) (n 19) = true := (pu_ix (by omega)).mpr (by omega)
      have hform : fX5_learnPhi_L6 l n w (pu_I b) (pu_I a) (k + 1) t.1 (pu_I i) t.2 = (if pv_b (pv_iw t.2 (l 0 7) w p (pu_I b)) = 0 then fX5_learnPhi_L6 l n w (pu_I b) (pu_I a) k t.1 (pu_I (i + 1)) t.2 else (if t.2 4 (nn (w 21 (a * 60 + p))) = 0 then fX5_learnPhi_L6 l n w (pu_I b) (pu_I a) k t.1 (pu_I (i + 1)) t.2 else ((fX5_learn t.2 (w 19 a) (t.2 4 (nn (w 21 (a * 60 + p)))) (t.2 5 (nn (w 21 (a * 60 + p))))).bind fun (o_16 : Int32 × ST) => (if (o_16.1) = 0 then (if t.1 = 0 then fX5_learnPhi_L6 l n w (pu_I b) (pu_I a) k 0 (pu_I (i + 1)) o_16.2 else fX5_learnPhi_L6 l n w (pu_I b) (pu_I a) k 1 (pu_I (i + 1)) o_16.2) else fX5_learnPhi_L6 l n w (pu_I b) (pu_I a) k 1 (pu_I (i + 1)) o_16.2)))) := by
        show ((fX1_waysTo w (pu_I b)).bind fun (o_1 : Int32) => (if o_1 ≤ pu_I i then some (t.1, t.2) else ((fX1_wayFrom w (pu_I b) (pu_I i)).bind fun (o_4 : Int32) => ((fX1_take n w (pu_I a) o_4).bind fun (o_6 : Int32) => ((fX5_isWay t.2 l w o_4 (pu_I b)).bind fun (o_8 : Int32) => (if o_8 = 0 then (fX5_learnPhi_J94 (fX5_learnPhi_L6 l n w (pu_I b) (pu_I a) k) (pu_I i) t.1 t.2) else (if ixb o_6 250 = true then (if (t.2 4 (nn o_6)) = 0 then (fX5_learnPhi_J94 (fX5_learnPhi_L6 l n w (pu_I b) (pu_I a) k) (pu_I i) t.1 t.2) else (if ixb (pu_I a) (n 19) = true then (if ixb o_6 250 = true then (if ixb o_6 250 = true then ((fX5_learn t.2 (w 19 (nn (pu_I a))) (t.2 4 (nn o_6)) (t.2 5 (nn o_6))).bind fun (o_16 : Int32 × ST) => (if (o_16.1) = 0 then (if t.1 = 0 then (fX5_learnPhi_J92 (fX5_learnPhi_L6 l n w (pu_I b) (pu_I a) k) (pu_I i) o_16 0) else (fX5_learnPhi_J87 (fX5_learnPhi_L6 l n w (pu_I b) (pu_I a) k) (pu_I i) o_16)) else (fX5_learnPhi_J87 (fX5_learnPhi_L6 l n w (pu_I b) (pu_I a) k) (pu_I i) o_16))) else none) else none) else none)) else none))))))) = _
        unfold fX5_learnPhi_J87 fX5_learnPhi_J92 fX5_learnPhi_J94
        rw [pv_waysTo hB hw hb, Option.bind_some, if_neg (by rw [pu_le (by omega) (by omega)]; omega), pv_wayFrom hB hw hb (by omega), Option.bind_some, p2, pv_take (by omega) (by omega), Option.bind_some, pv_isWay hB p1 (hev p p1), Option.bind_some, if_pos hx, if_pos h19, if_pos hx, if_pos hx, pu_nn (show a < 2147483648 by omega), pu_su]
      have hdone : pv_lr 0 g t.1 t.2 → (t.1 = 0 → ∀ j, wb b ≤ j → j < wb b + (i + 1) → pv_iw g (l 0 7) w (nn (w 15 j)) (pu_I b) = true → g 4 (nn (pv_tv w a j)) = 0 ∨ g 4 (nn (w 19 a)) = 2 ∨ (g 4 (nn (w 19 a)) = 1 ∧ g 4 (nn (pv_tv w a j)) = 1 ∧ g 5 (nn (w 19 a)) = g 5 (nn (pv_tv w a j)))) → _ := fun _ h => h
      rw [hform]
      cases hiw : pv_iw t.2 (l 0 7) w p (pu_I b) with
      | false =>
        rw [if_pos (by decide)]
        refine ⟨t, rfl, i1, fun h0 j j1 j2 hj => ?_⟩
        by_cases e : j = wb b + i
        · exfalso
          rw [e, hpn, ← (i1.2.2.2.2.1 h0).2, hiw] at hj
          cases hj
        · exact i2 h0 j j1 (by omega) hj
      | true =>
        rw [if_neg (by decide)]
        by_cases hs : t.2 4 (nn (w 21 (a * 60 + p))) = 0
        · rw [if_pos hs]
          refine ⟨t, rfl, i1, fun h0 j j1 j2 hj => ?_⟩
          by_cases e : j = wb b + i
          · rw [e, htv, ← (i1.2.2.2.2.1 h0).2]
            exact Or.inl hs
          · exact i2 h0 j j1 (by omega) hj
        · rw [if_neg hs]
          obtain ⟨r, g2, f1, f2, f3⟩ := pv_learn (g := t.2) (v := w 19 a) (p3 := t.2 5 (nn (w 21 (a * 60 + p)))) (hix b hb a ha) ((hfv1 _ (pv_ixn hx).2).resolve_left hs)
          rw [f1, Option.bind_some]
          refine ⟨(if r = 0 then t.1 else 1, g2), ?_, pv_lr_tr i1 (pv_lr_or i1.1 f2), fun h0 j j1 j2 hj => ?_⟩
          · show (if r = 0 then (if t.1 = 0 then _ else _) else _) = fX5_learnPhi_L6 l n w (pu_I b) (pu_I a) k (if r = 0 then t.1 else 1) (pu_I (i + 1)) g2
            by_cases hr : r = 0
            · rw [if_pos hr, if_pos hr]
              by_cases ht : t.1 = 0
              · rw [if_pos ht, ht]
              · rw [if_neg ht, i1.1.resolve_left ht]
            · rw [if_neg hr, if_neg hr]
          · have h0 : (if r = 0 then t.1 else 1) = (0 : Int32) := h0
            have hr : r = 0 := by
              by_cases hr : r = 0
              · exact hr
              · rw [if_neg hr] at h0; exact absurd h0 (by decide)
            rw [if_pos hr] at h0
            have hg := (i1.2.2.2.2.1 h0).2
            by_cases e : j = wb b + i
            · rw [e, htv]
              have h9 := f3 hr
              rw [hg] at h9 hs
              rcases h9 with h9 | ⟨h9, h8, h7⟩
              · exact Or.inr (Or.inl h9)
              · exact Or.inr (Or.inr ⟨h9.resolve_right fun c => c hfv, h8, h7⟩)
            · exact i2 h0 j j1 (by omega) hj)
    (fun k t hI => ⟨t, by
      show ((fX1_waysTo w (pu_I b)).bind fun (o_1 : Int32) => (if o_1 ≤ pu_I (wb (b + 1) - wb b) then some (t.1, t.2) else _)) = _
      rw [pv_waysTo hB hw hb, Option.bind_some, if_pos (Int32.le_refl _)], hI⟩)
    (wb (b + 1) - wb b) 0 NF (0, g) (by omega) (by have := pv_NF; omega) ⟨pv_lr_rf (Or.inl rfl), fun _ j j1 j2 => by omega⟩
  have e1 : fX5_learnPhi_L6 l n w (pu_I b) (pu_I a) NF 0 0 g = some t := e1
  refine ⟨t.1, t.2, ?_, e2, fun h0 j j1 j2 => e3 h0 j j1 (by omega)⟩
  unfold fX5_learnPhi
  rw [e1, Option.bind_some, if_pos e2.1]
/-- what a step tells where nothing is learnt -/
def pv_cfs (g w2 : ST) (a : Nat) : Prop :=
  (w2 2 a = 0 → g 4 (nn (w2 3 a)) = 2 ∨ (g 4 (nn (w2 3 a)) = 1 ∧ g 5 (nn (w2 3 a)) = w2 4 a)) ∧ (w2 2 a ≠ 0 → pu_isop (w2 2 a) = false → g 4 (nn (w2 3 a)) = 2) ∧
  (pu_isop (w2 2 a) = true → ((g 4 (nn (w2 4 a)) = 2 ∨ g 4 (nn (w2 5 a)) = 2 ∨ (g 4 (nn (w2 5 a)) = 1 ∧ pu_fail (w2 2 a) (g 5 (nn (w2 5 a))) = true)) → g 4 (nn (w2 3 a)) = 2) ∧
    (g 4 (nn (w2 4 a)) = 1 → g 4 (nn (w2 5 a)) = 1 → pu_fail (w2 2 a) (g 5 (nn (w2 5 a))) = false → g 4 (nn (w2 3 a)) = 2 ∨ (g 4 (nn (w2 3 a)) = 1 ∧ g 5 (nn (w2 3 a)) = pu_cmp (w2 2 a) (g 5 (nn (w2 4 a))) (g 5 (nn (w2 5 a))))))
theorem pv_learnStep {g : ST} (hfv : pv_fv g) {a : Nat} (haN : a < N) (hN2 : N ≤ n2 2) (hN3 : N ≤ n2 3) (hN4 : N ≤ n2 4) (hN5 : N ≤ n2 5) (hN : N < 50000) (hgv : ixb (w2 3 a) 250 = true) (hr : (pu_ul (w2 2 a) = true → ixb (w2 4 a) 250 = true) ∧ (pu_ur (w2 2 a) = true → ixb (w2 5 a) 250 = true)) :
    ∃ r g', fX5_learnStep g n2 w2 (pu_I a) = some (r, g') ∧ pv_lr 0 g r g' ∧ (r = 0 → pv_cfs g w2 a) := by
  have ha31 : a < 2147483648 := by omega
  have i2 : ixb (pu_I a) (n2 2) = true := (pu_ix ha31).mpr (by omega)
  have i3 : ixb (pu_I a) (n2 3) = true := (pu_ix ha31).mpr (by omega)
  have i4 : ixb (pu_I a) (n2 4) = true := (pu_ix ha31).mpr (by omega)
  have i5 : ixb (pu_I a) (n2 5) = true := (pu_ix ha31).mpr (by omega)
  have hout : ∀ {r : Int32} {g' : ST}, pv_lr 0 g r g' → (if r = 0 ∨ r = 1 then some (r, g') else none) = some (r, g') := fun h => if_pos h.1
  unfold fX5_learnStep
  rw [if_pos i2, if_pos i3, pu_nn ha31]
  by_cases h0 : w2 2 a = 0
  · rw [if_pos h0, if_pos i4]
    obtain ⟨r, g', e1, e2, e3⟩ := pv_learn (g := g) (p2 := 1) (p3 := w2 4 a) hgv (Or.inl rfl)
    rw [e1, Option.bind_some, hout e2]
    refine ⟨r, g', rfl, e2, fun hr0 => ⟨fun _ => ?_, fun h => absurd h0 h, fun h => ?_⟩⟩
    · rcases e3 hr0 with h | ⟨h, _, h7⟩
      · exact Or.inl h
      · exact Or.inr ⟨h.resolve_right fun c => c hfv, h7⟩
    · rw [h0] at h; exact absurd h (by decide)
  rw [if_neg h0, pv_isop, Option.bind_some]
  by_cases hop : pu_isop (w2 2 a) = true
  · rw [hop, if_neg (by decide), if_pos i4, if_pos i5]
    have hu := pu_op_u hop
    have hx := hr.1 hu.1
    have hy := hr.2 hu.2
    have hvx := hfv _ (pv_ixn hx).2
    have hvy := hfv _ (pv_ixn hy).2
    have hop9 : pu_isop (w2 2 a) = false → False := fun h => by rw [hop] at h; cases h
    -- it varies
    have h124 : ∃ r g', fX5_learnStep_J124 g w2 (pu_I a) = some (r, g') ∧ pv_lr 0 g r g' ∧ (r = 0 → g 4 (nn (w2 3 a)) = 2) := by
      obtain ⟨r, g', e1, e2, e3⟩ := pv_learn (g := g) (p2 := 2) (p3 := 0) hgv (Or.inr rfl)
      unfold fX5_learnStep_J124
      rw [pu_nn ha31, e1, Option.bind_some, hout e2]
      refine ⟨r, g', rfl, e2, fun hr0 => ?_⟩
      rcases e3 hr0 with h | ⟨_, h, _⟩
      · exact h
      · exact absurd h (by decide)
    have h95 : ∀ y0 : Int32, (y0 ≠ 0 ↔ g 4 (nn (w2 5 a)) = 1 ∧ pu_fail (w2 2 a) (g 5 (nn (w2 5 a))) = true) → ∃ r g', fX5_learnStep_J95 g w2 (pu_I a) y0 = some (r, g') ∧ pv_lr 0 g r g' ∧ (r = 0 → pv_cfs g w2 a) := by
      intro y0 hy0
      obtain ⟨r, g', e1, e2, e3⟩ := h124
      have hvar : (g 4 (nn (w2 4 a)) = 2 ∨ g 4 (nn (w2 5 a)) = 2 ∨ (g 4 (nn (w2 5 a)) = 1 ∧ pu_fail (w2 2 a) (g 5 (nn (w2 5 a))) = true)) → (r = 0 → pv_cfs g w2 a) := fun _ hr0 => ⟨fun h => absurd h h0, fun _ h => (hop9 h).elim, fun _ => ⟨fun _ => e3 hr0, fun _ _ _ => Or.inl (e3 hr0)⟩⟩
      unfold fX5_learnStep_J95 fX5_learnStep_J153
      rw [pu_nn ha31, if_pos hx]
      by_cases c1 : g 4 (nn (w2 4 a)) = 2
      · rw [if_pos c1]
        exact ⟨r, g', e1, e2, hvar (Or.inl c1)⟩
      rw [if_neg c1, if_pos hy]
      by_cases c2 : g 4 (nn (w2 5 a)) = 2
      · rw [if_pos c2]
        exact ⟨r, g', e1, e2, hvar (Or.inr (Or.inl c2))⟩
      rw [if_neg c2]
      by_cases c3 : y0 = 0
      · have hnf : ¬ (g 4 (nn (w2 5 a)) = 1 ∧ pu_fail (w2 2 a) (g 5 (nn (w2 5 a))) = true) := fun c => (hy0.mpr c) c3
        have hnv : ¬ (g 4 (nn (w2 4 a)) = 2 ∨ g 4 (nn (w2 5 a)) = 2 ∨ (g 4 (nn (w2 5 a)) = 1 ∧ pu_fail (w2 2 a) (g 5 (nn (w2 5 a))) = true)) := fun c => c.elim c1 fun c => c.elim c2 hnf
        rw [if_pos c3, if_pos hx]
        by_cases c4 : g 4 (nn (w2 4 a)) = 0
        · rw [if_pos c4]
          exact ⟨0, g, rfl, pv_lr_rf (Or.inl rfl), fun _ => ⟨fun h => absurd h h0, fun _ h => (hop9 h).elim, fun _ => ⟨fun h => absurd h hnv, fun h => by rw [c4] at h; exact absurd h (by decide)⟩⟩⟩
        rw [if_neg c4, if_pos hy]
        by_cases c5 : g 4 (nn (w2 5 a)) = 0
        · rw [if_pos c5]
          exact ⟨0, g, rfl, pv_lr_rf (Or.inl rfl), fun _ => ⟨fun h => absurd h h0, fun _ h => (hop9 h).elim, fun _ => ⟨fun h => absurd h hnv, fun _ h => by rw [c5] at h; exact absurd h (by decide)⟩⟩⟩
        rw [if_neg c5, if_pos hx, if_pos hy, pv_compute, Option.bind_some]
        obtain ⟨r2, g2, f1, f2, f3⟩ := pv_learn (g := g) (p2 := 1) (p3 := pu_cmp (w2 2 a) (g 5 (nn (w2 4 a))) (g 5 (nn (w2 5 a)))) hgv (Or.inl rfl)
        rw [f1, Option.bind_some, hout f2]
        refine ⟨r2, g2, rfl, f2, fun hr0 => ⟨fun h => absurd h h0, fun _ h => (hop9 h).elim, fun _ => ⟨fun h => absurd h hnv, fun _ _ _ => ?_⟩⟩⟩
        rcases f3 hr0 with h | ⟨h, _, h7⟩
        · exact Or.inl h
        · exact Or.inr ⟨h.resolve_right fun c => c hfv, h7⟩
      · rw [if_neg c3]
        exact ⟨r, g', e1, e2, hvar (Or.inr (Or.inr (hy0.mp c3)))⟩
    rw [if_pos hy]
    by_cases c1 : g 4 (nn (w2 5 a)) = 1
    · rw [if_pos c1, if_pos hy, pv_failing, Option.bind_some]
      cases hf : pu_fail (w2 2 a) (g 5 (nn (w2 5 a))) with
      | true =>
        rw [if_neg (by decide)]
        exact h95 1 ⟨fun _ => ⟨c1, hf⟩, fun _ => by decide⟩
      | false =>
        rw [if_pos (by decide)]
        unfold fX5_learnStep_J94
        exact h95 0 ⟨fun h => absurd rfl h, fun h => by rw [hf] at h; cases h.2⟩
    · rw [if_neg c1]
      unfold fX5_learnStep_J94
      exact h95 0 ⟨fun h => absurd rfl h, fun h => absurd h.1 c1⟩
  · have hop9 : pu_isop (w2 2 a) = false := by simpa using hop
    rw [hop9, if_pos (by decide)]
    obtain ⟨r, g', e1, e2, e3⟩ := pv_learn (g := g) (p2 := 2) (p3 := 0) hgv (Or.inr rfl)
    rw [e1, Option.bind_some, hout e2]
    refine ⟨r, g', rfl, e2, fun hr0 => ⟨fun h => absurd h h0, fun _ _ => ?_, fun h => absurd h hop⟩⟩
    rcases e3 hr0 with h | ⟨_, h, _⟩
    · exact h
    · exact absurd h (by decide)
end FL
