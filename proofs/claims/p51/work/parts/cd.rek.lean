/-! pure side, the graph 11: meetings in all blocks -/
section REK
variable {n n2 : Nat → Nat} {w fw x9 : ST} {l : SL} {B N V H wd : Nat} {qs : Nat → List Nat}
/-- what is live behind a block -/
abbrev pg_X (H wd : Nat) (fw x9 : ST) (qs : Nat → List Nat) (l : SL) (b : Nat) : Int32 → Prop := pu_xo (pg_F fw x9 qs) (pg_W H wd l) b
theorem pg_W_r {l' : SL} (h : l' 6 = l 6) : pg_W H wd l' = pg_W H wd l := by
  funext c v
  unfold pg_W pg_g
  rw [h]
theorem pg_xoE (hHV : H ≤ V) (hV : V < 1000000) {b : Nat} : ∀ u, H ≤ u → u < V → (pg_X H wd fw x9 qs l b (pu_I u) ↔ pg_E fw b (pu_I u)) := fun u u1 u2 => by
  refine ⟨fun h => h.elim id fun ⟨c, _, h, h1, h2, _⟩ => ?_, Or.inl⟩
  have := pu_inj (by omega) (by omega) h2
  omega
theorem pg_fl_sc (hfl : pg_fl B N V fw x9 n2 qs) {b : Nat} (hb : b < B) (c : Nat) : pu_sc (pg_F fw x9 qs) b c ↔ (c < B ∧ (fw 10 b = pu_I c ∨ fw 11 b = pu_I c)) := by
  obtain ⟨⟨hB0, hBp, hB⟩, _, _, _, _, hend⟩ := hfl
  obtain ⟨q1, q2, q3, q4, q5, q6⟩ := hend b hb
  have hneg : ∀ {x : Int32}, x < 0 → ∀ c, c < B → x ≠ pu_I c := fun hx c hc e => by rw [e] at hx; exact absurd hx (pu_ge (by omega))
  show (fw 8 b ≠ 24 ∧ (c = nn (fw 10 b) ∨ (fw 8 b = 23 ∧ c = nn (fw 11 b)))) ↔ _
  rcases q1 with h | h | h
  · obtain ⟨⟨d, d1, d2⟩, d3⟩ := q4 h
    rw [d2, pu_nn (by omega)]
    constructor
    · rintro ⟨_, rfl | ⟨h9, _⟩⟩
      · exact ⟨d1, Or.inl rfl⟩
      · rw [h] at h9; exact absurd h9 (by decide)
    · rintro ⟨c1, c2 | c2⟩
      · exact ⟨by rw [h]; decide, Or.inl (pu_inj (by omega) (by omega) c2).symm⟩
      · exact absurd c2 (hneg d3 c c1)
  · obtain ⟨⟨d, d1, d2⟩, ⟨e, e1, e2⟩⟩ := q5 h
    rw [d2, e2, pu_nn (by omega), pu_nn (by omega)]
    constructor
    · rintro ⟨_, rfl | ⟨_, rfl⟩⟩
      · exact ⟨d1, Or.inl rfl⟩
      · exact ⟨e1, Or.inr rfl⟩
    · rintro ⟨c1, c2 | c2⟩
      · exact ⟨by rw [h]; decide, Or.inl (pu_inj (by omega) (by omega) c2).symm⟩
      · exact ⟨by rw [h]; decide, Or.inr ⟨h, (pu_inj (by omega) (by omega) c2).symm⟩⟩
  · obtain ⟨d1, d2⟩ := q6 h
    constructor
    · rintro ⟨h9, _⟩; exact absurd h h9
    · rintro ⟨c1, c2 | c2⟩
      · exact absurd c2 (hneg d1 c c1)
      · exact absurd c2 (hneg d2 c c1)
/-- guests in all blocks -/
def pg_gs (B H V : Nat) (fw x9 : ST) (qs : Nat → List Nat) : Prop := pg_un B H V x9 qs ∧ ∀ b, b < B → pg_gd H V (pg_E fw b) ((qs b).map (pv_S x9)) []
/-- the state, some blocks gone through -/
def pg_ia (B H V wd : Nat) (fw x9 : ST) (qs : Nat → List Nat) (l0 : SL) (i : Nat) (w : ST) (l : SL) : Prop :=
  pg_in w l H V wd ∧ (∀ v, v < V → w 12 v ≠ -1 → ∃ b, b < i ∧ pg_gv ((qs b).map (pv_S x9)) (pu_I v)) ∧ (∀ b, b < i → ∀ l1 a l2, qs b = l1 ++ a :: l2 → pg_ok1 w l H V wd (pv_S x9 a) (pu_lv (l2.map (pv_S x9)) (pg_X H wd fw x9 qs l0 b)))
theorem pg_meetInBlock {l0 : SL} (hw0 : w 0 0 = pu_I H) (hw2 : w 0 2 = pu_I wd) (hwd : wd < 1000) (hH : H ≤ wd * 64) (hHV : H ≤ V) (hR : pg_room B wd V n) (hfl : pg_fl B N V fw x9 n2 qs) (hgs : pg_gs B H V fw x9 qs) {b : Nat} (hb : b < B) (hl6 : l 6 = l0 6) (hbit : ∀ c h, c < B → h < wd * 64 → pg_g l0 6 wd c h = true → h < H) (hI : pg_ia B H V wd fw x9 qs l0 b w l) :
    ∃ w' l' n', fX2_meetInBlock n w l fw (pu_I b) n2 x9 = some (w', l', n') ∧ pg_ia B H V wd fw x9 qs l0 (b + 1) w' l' ∧ pg_room B wd V n' ∧ (∀ i, i ≠ 8 → w' 0 i = w 0 i) ∧ (∀ r, r ≠ 7 → r ≠ 11 → l' r = l r) := by
  obtain ⟨⟨hB0, hBp, hB⟩, ⟨_, hN, hV⟩, hst, hd, hstep, hend⟩ := id hfl
  have hV9 : V < 1000000 := by omega
  obtain ⟨⟨R4, R5, R6⟩, R7, R11, R12, c4, c5, c6, c7, c10, c11, c12⟩ := id hR
  obtain ⟨g, a1, a2⟩ := pg_fillA (n := n 7) (f := l 7) (v := 0) (by omega)
  obtain ⟨w2, hw2'⟩ : ∃ w2, w2 = upw w 0 8 0 := ⟨_, rfl⟩
  obtain ⟨l1, hl1⟩ : ∃ l1, l1 = srl l 7 g := ⟨_, rfl⟩
  have f2 : ∀ i, i ≠ 8 → w2 0 i = w 0 i := fun i hi => by rw [hw2', pv_upw, if_neg fun h => hi h.2]
  have f2r : ∀ r, r ≠ 0 → w2 r = w r := fun r hr => by rw [hw2', pv_upw_n hr]
  have f1 : ∀ r, r ≠ 7 → l1 r = l r := fun r hr => by rw [hl1, pv_srl_n hr]
  have hlst0 : pg_lst w2 l1 H V wd (fun _ => False) [] := by
    refine ⟨fun h hh => ?_, by rw [hw2', pv_upw, if_pos ⟨rfl, rfl⟩]; rfl, Nat.zero_le _, fun i v h => (by cases h), List.nodup_nil, fun v h => (by cases h), fun v _ _ => ⟨fun h => absurd h id, fun h => (by cases h)⟩⟩
    rw [pg_0g, hl1, pv_srl_s, a2 _ (by omega), pv_bt_0]
    exact ⟨fun h => (by cases h), fun h => absurd h.2 id⟩
  obtain ⟨q1, q2, q3, q4, q5, q6⟩ := hend b hb
  have hs10 : fw 10 b < 0 ∨ ∃ c, c < B ∧ fw 10 b = pu_I c := by
    rcases q1 with h | h | h
    · exact Or.inr (q4 h).1
    · exact Or.inr (q5 h).1
    · exact Or.inl (q6 h).1
  have hs11 : fw 11 b < 0 ∨ ∃ c, c < B ∧ fw 11 b = pu_I c := by
    rcases q1 with h | h | h
    · exact Or.inl (q4 h).2
    · exact Or.inr (q5 h).2
    · exact Or.inl (q6 h).2
  have hb1 : ∀ (x : SL), x 6 = l 6 → ∀ c h, c < B → h < wd * 64 → pg_g x 6 wd c h = true → h < H := fun x hx c h hc hh h1 => hbit c h hc hh (by rw [← pg_g_r (hx.trans hl6)]; exact h1)
  have hw20 : w2 0 0 = pu_I H := by rw [f2 0 (by decide)]; exact hw0
  have hw22 : w2 0 2 = pu_I wd := by rw [f2 2 (by decide)]; exact hw2
  obtain ⟨l2, b1, b2, b3⟩ := pg_addLiveIn (n := n) hw22 hwd hH hHV hV9 hB R7 (by omega) R6 (by omega) hlst0 hs10 (hb1 l1 (f1 6 (by decide)))
  obtain ⟨l3, d1, d2, d3⟩ := pg_addLiveIn (n := n) hw22 hwd hH hHV hV9 hB R7 (by omega) R6 (by omega) b2 hs11 (hb1 l2 (by rw [b3 6 (by decide), f1 6 (by decide)]))
  have h63 : l3 6 = l0 6 := by rw [d3 6 (by decide), b3 6 (by decide), f1 6 (by decide), hl6]
  have hW1 : pg_W H wd l1 = pg_W H wd l0 := pg_W_r (by rw [f1 6 (by decide), hl6])
  have hW2 : pg_W H wd l2 = pg_W H wd l0 := pg_W_r (by rw [b3 6 (by decide), f1 6 (by decide), hl6])
  -- the end's value
  have hE : ∃ w4 l4 Q, pg_lst w4 l4 H V wd (pg_X H wd fw x9 qs l0 b) Q ∧ (∀ i, i ≠ 8 → w4 0 i = w 0 i) ∧ (∀ r, r ≠ 0 → r ≠ 8 → w4 r = w r) ∧ (∀ r, r ≠ 7 → l4 r = l r) ∧
      fX2_meetInBlock n w l fw (pu_I b) n2 x9 = fX2_meetInBlock_J52 n fw (pu_I b) n2 x9 w4 l4 := by
    have hib : ixb (pu_I b) 60 = true := (pu_ix (by omega)).mpr (by omega)
    have hform : fX2_meetInBlock n w l fw (pu_I b) n2 x9 = (if (fw 9 b) < 0 then (fX2_meetInBlock_J52 n fw (pu_I b) n2 x9 w2 l3) else ((fX2_addLive n w2 l3 (fw 9 b)).bind fun (o_62 : ST × SL) => (fX2_meetInBlock_J52 n fw (pu_I b) n2 x9 (o_62.1) (o_62.2)))) := by
      unfold fX2_meetInBlock
      rw [a1, Option.bind_some]
      simp only [lt9]
      rw [← hw2', ← hl1, if_pos hib, pu_nn (show b < 2147483648 by omega), b1, Option.bind_some, if_pos hib, d1, Option.bind_some, if_pos hib, if_pos hib]
    have hor : ∀ u, ((False ∨ ∃ c, c < B ∧ fw 10 b = pu_I c ∧ pg_W H wd l1 c u) ∨ ∃ c, c < B ∧ fw 11 b = pu_I c ∧ pg_W H wd l2 c u) ↔ ∃ c, pu_sc (pg_F fw x9 qs) b c ∧ pg_W H wd l0 c u := fun u => by
      rw [hW1, hW2]
      constructor
      · rintro ((h | ⟨c, c1, c2, c3⟩) | ⟨c, c1, c2, c3⟩)
        · exact absurd h id
        · exact ⟨c, (pg_fl_sc hfl hb c).mpr ⟨c1, Or.inl c2⟩, c3⟩
        · exact ⟨c, (pg_fl_sc hfl hb c).mpr ⟨c1, Or.inr c2⟩, c3⟩
      · rintro ⟨c, c1, c3⟩
        obtain ⟨c1, c2 | c2⟩ := (pg_fl_sc hfl hb c).mp c1
        · exact Or.inl (Or.inr ⟨c, c1, c2, c3⟩)
        · exact Or.inr ⟨c, c1, c2, c3⟩
    rcases q1 with h22 | h23
    · refine ⟨w2, l3, [], pg_lst_cg d2 (fun v _ => ?_) hHV, f2, fun r r0 _ => f2r r r0, fun r r7 => by rw [d3 r r7, b3 r r7, f1 r r7], by rw [hform, if_pos (q2 h22)]⟩
      rw [hor]
      refine ⟨fun h => h.elim (fun h => ?_) id, Or.inr⟩
      have h9 : fw 8 b = 23 ∨ fw 8 b = 24 := h.1
      rcases h9 with h9 | h9 <;> rw [h22] at h9 <;> exact absurd h9 (by decide)
    · obtain ⟨u, u1, u2⟩ := q3 h23
      obtain ⟨w4, l4, Q, z1, z2, z3, z4, z5, z6, z7⟩ := pg_addLive (n := n) hw20 hw22 hH hHV hV9 R7 (by omega) d2 u1 (fun _ => Nat.zero_le _)
      refine ⟨w4, l4, Q, pg_lst_cg z2 (fun v _ => ?_) hHV, fun i hi => by rw [z7 i hi, f2 i hi], fun r r0 r8 => by rw [z6 r r0 r8, f2r r r0], fun r r7 => by rw [z5 r r7, d3 r r7, b3 r r7, f1 r r7], by rw [hform, u2, if_neg (pu_ge (by omega)), z1, Option.bind_some]⟩
      rw [hor]
      constructor
      · rintro (h | h)
        · exact Or.inl (h.2.trans u2)
        · exact Or.inr h
      · rintro (h | h)
        · exact Or.inl ⟨h23, h.trans u2.symm⟩
        · exact Or.inr h
  obtain ⟨w4, l4, Q, z1, z2, z3, z4, z5⟩ := hE
  obtain ⟨w5, n5, y1, y2, y3, y4, y5, y6⟩ := pg_listSteps (n := n) hfl hb c10 w4
  have hR5 : pg_room B wd V n5 := by
    have e : ∀ r, r ≠ 10 → n5 r = n r := y6
    obtain ⟨R12a, R12b, R12c, R12d, R12e, R12f, R12g, R12h⟩ := R12
    obtain ⟨c13, c14, c15, c16, c17, c18, c19⟩ := c12.2
    refine ⟨⟨by rw [e 4 (by decide)]; exact R4, by rw [e 5 (by decide)]; exact R5, by rw [e 6 (by decide)]; exact R6⟩, by rw [e 7 (by decide)]; exact R7, by rw [e 11 (by decide)]; exact R11, ⟨by rw [e 12 (by decide)]; exact R12a, by rw [e 13 (by decide)]; exact R12b, by rw [e 14 (by decide)]; exact R12c, by rw [e 15 (by decide)]; exact R12d, by rw [e 16 (by decide)]; exact R12e, by rw [e 17 (by decide)]; exact R12f, by rw [e 18 (by decide)]; exact R12g, by rw [e 19 (by decide)]; exact R12h⟩, by rw [e 4 (by decide)]; exact c4, by rw [e 5 (by decide)]; exact c5, by rw [e 6 (by decide)]; exact c6, by rw [e 7 (by decide)]; exact c7, y5, by rw [e 11 (by decide)]; exact c11, by rw [e 12 (by decide)]; exact c12.1, by rw [e 13 (by decide)]; exact c13, by rw [e 14 (by decide)]; exact c14, by rw [e 15 (by decide)]; exact c15, by rw [e 16 (by decide)]; exact c16, by rw [e 17 (by decide)]; exact c17, by rw [e 18 (by decide)]; exact c18, by rw [e 19 (by decide)]; exact c19⟩
  obtain ⟨⟨S4, S5, S6⟩, S7, S11, S12, s4, s5, s6, s7, s10, s11, s12⟩ := id hR5
  have hlst5 : pg_lst w5 l4 H V wd (pg_X H wd fw x9 qs l0 b) Q := by
    obtain ⟨g1, g2, g3, g4, g5⟩ := z1
    exact ⟨g1, by rw [y3 0 (by decide)]; exact g2, g3, fun i v hv => by rw [y3 8 (by decide)]; exact g4 i v hv, g5⟩
  obtain ⟨⟨i1, i1'⟩, i2, i3⟩ := hI
  have h12 : w5 12 = w 12 := by rw [y3 12 (by decide), z3 12 (by decide) (by decide)]
  have h11 : l4 11 = l 11 := z4 11 (by decide)
  have hD0 : ∀ u, H ≤ u → u < V → (∃ c, c < b ∧ pg_gv ((qs c).map (pv_S x9)) (pu_I u)) → ∀ a, a ∈ qs b → pu_gw (x9 2 a) = true → x9 3 a ≠ pu_I u := by
    rintro u u1 u2 ⟨c, c1, c2⟩ a ha h1 h2
    obtain ⟨a', a1, a2, a3⟩ := pg_gvm.mp c2
    have e := hgs.1 b c a a' u hb (by omega) ha a1 u1 u2 h1 a2 h2 a3
    rw [← e] at a1
    have := hd.2.2 b c a hb (by omega) ha a1
    omega
  have hI5 : pg_ib B H V wd x9 (pg_X H wd fw x9 qs l0 b) (fun u => ∃ c, c < b ∧ pg_gv ((qs c).map (pv_S x9)) (pu_I u)) w5 l4 [] w5 l4 := by
    refine ⟨⟨Q, hlst5⟩, ⟨fun v h hv hh h1 => i1 v h hv hh (by rw [← pg_g_r h11]; exact h1), fun v hv => by rw [h12]; exact i1' v hv⟩, ⟨fun _ _ _ _ h => h, fun _ _ _ => rfl⟩, fun v hv h1 => Or.inl (i2 v hv (by rw [← h12]; exact h1)), fun l1 a l2 h => ?_, fun _ _ _ _ => rfl, fun _ _ => rfl, fun _ _ _ => rfl⟩
    exact absurd (congrArg List.length h) (by rw [List.length_append, List.length_cons]; show (0 : Nat) ≠ _; omega)
  have hw50 : w5 0 0 = pu_I H := by rw [y3 0 (by decide), z2 0 (by decide)]; exact hw0
  have hw52 : w5 0 2 = pu_I wd := by rw [y3 0 (by decide), z2 2 (by decide)]; exact hw2
  obtain ⟨w6, l6, x1, x2⟩ := pg_67 (n := n5) (o8 := (pu_I (qs b).length, w5, n5)) hw50 hw52 hwd hH hHV S7 (by omega) S11 (by omega) S12.1 hfl hb rfl y4 (by omega) y2 (hgs.2 b hb) (pg_xoE hHV hV9) hgs.1 hD0 (qs b).length (qs b) [] (List.append_nil _).symm rfl NF w5 l4 (by have := pv_len N (qs b) (hd.2.1 b hb) (hd.1 b hb); have := pv_NF; omega) hI5
  obtain ⟨v1, v2, v3, v4, v5, v6, v7, v8⟩ := x2
  refine ⟨w6, l6, n5, ?_, ⟨v2, fun v hv h1 => ?_, fun c hc l1 a l2 hq => ?_⟩, hR5, fun i hi => by rw [v7 i hi, y3 0 (by decide), z2 i hi], fun r r7 r11 => by rw [v8 r r7 r11, z4 r r7]⟩
  · rw [z5]
    unfold fX2_meetInBlock_J52
    rw [y1, Option.bind_some]
    unfold fX2_meetInBlock_G63_38
    show ((fX2_meetInBlock_L67 n2 x9 (pu_I (qs b).length, w5, n5) NF (pu_I (qs b).length - 1) w5 l4).bind _) = _
    rw [Int32.sub_eq_add_neg, x1, Option.bind_some]
  · rcases v4 v hv h1 with ⟨c, c1, c2⟩ | h | h
    · exact ⟨c, by omega, c2⟩
    · exact ⟨b, Nat.lt_succ_self b, h⟩
    · -- nothing is pending ahead of a block
      exfalso
      have hv1 : H ≤ v := by
        rcases v2.2 v hv with h9 | h9
        · exact absurd h9 h1
        · exact h9.1
      have h9 := (h v hv1 hv).mpr rfl
      have h8 := (pg_gd_lv hV9 (pg_xoE (l := l0) (x9 := x9) (qs := qs) (wd := wd) hHV hV9) _ _ (hgs.2 b hb) v hv1 hv).mp h9
      cases h8
  · by_cases e : c = b
    · subst e
      exact v5 l1 a l2 hq
    · have h9 := i3 c (by omega) l1 a l2 hq
      refine pg_ok1_mn hV9 hH ?_ h9
      refine ⟨fun v h hv hh h1 => v3.1 v h hv hh (by rw [pg_g_r h11]; exact h1), fun v hv h1 => ?_⟩
      rw [v3.2 v hv (by rw [h12]; exact h1), h12]
theorem pg_96 {l0 : SL} (hwd : wd < 1000) (hH : H ≤ wd * 64) (hHV : H ≤ V) (hfl : pg_fl B N V fw x9 n2 qs) (hgs : pg_gs B H V fw x9 qs) (hbit : ∀ c h, c < B → h < wd * 64 → pg_g l0 6 wd c h = true → h < H) :
    ∀ (m i k : Nat) (w : ST) (l : SL) (n : Nat → Nat), i + m = B → m < k → w 0 0 = pu_I H → w 0 2 = pu_I wd → pg_room B wd V n → l 6 = l0 6 → pg_ia B H V wd fw x9 qs l0 i w l →
      ∃ w' l' n', fX2_reckon_L96 fw n2 x9 k (pu_I i) w l n = some (w', l', n') ∧ pg_ia B H V wd fw x9 qs l0 B w' l' ∧ pg_room B wd V n' ∧ (∀ i, i ≠ 8 → w' 0 i = w 0 i) ∧ (∀ r, r ≠ 7 → r ≠ 11 → l' r = l r) := by
  have hB0 := hfl.1.1
  have hB := hfl.1.2.2
  intro m
  induction m with
  | zero =>
    intro i k w l n hi hk h0 h2 hR hl hI
    obtain ⟨k', rfl⟩ : ∃ k', k = k' + 1 := ⟨k - 1, by omega⟩
    obtain rfl : i = B := by omega
    refine ⟨w, l, n, ?_, hI, hR, fun _ _ => rfl, fun _ _ _ => rfl⟩
    show (if (fw 0 0) ≤ pu_I i then some (w, l, n) else _) = _
    rw [hB0, if_pos (Int32.le_refl _)]
  | succ m ih =>
    intro i k w l n hi hk h0 h2 hR hl hI
    obtain ⟨k', rfl⟩ : ∃ k', k = k' + 1 := ⟨k - 1, by omega⟩
    obtain ⟨w1, l1, n1, a1, a2, a3, a4, a5⟩ := pg_meetInBlock h0 h2 hwd hH hHV hR hfl hgs (show i < B by omega) hl hbit hI
    obtain ⟨w', l', n', b1, b2, b3, b4, b5⟩ := ih (i + 1) k' w1 l1 n1 (by omega) (by omega) (by rw [a4 0 (by decide)]; exact h0) (by rw [a4 2 (by decide)]; exact h2) a3 (by rw [a5 6 (by decide) (by decide)]; exact hl) a2
    refine ⟨w', l', n', ?_, b2, b3, fun i hi => by rw [b4 i hi, a4 i hi], fun r r7 r11 => by rw [b5 r r7 r11, a5 r r7 r11]⟩
    show (if (fw 0 0) ≤ pu_I i then some (w, l, n) else ((fX2_meetInBlock n w l fw (pu_I i) n2 x9).bind fun (o_40 : ST × SL × (Nat → Nat)) => (fX2_reckon_G112_69 (fX2_reckon_L96 fw n2 x9 k') (pu_I i) o_40))) = _
    rw [hB0, if_neg (by rw [pu_le (by omega) (by omega)]; omega), a1, Option.bind_some]
    unfold fX2_reckon_G112_69
    rw [pu_su]
    exact b1
end REK
