/-! pure side, totality 4: code runs to an end, whatever it holds -/
section TC
variable {P : ST} {fs : Nat} {np Nl : Nat → Nat} {Cn : Nat → Nat → Nat} {Cw : Nat → ST} {n17 : Nat → Nat} {R : Nat}
def tv_fc (fs : Nat) (Nl : Nat → Nat) (Cw : Nat → ST) (w : ST) (x : Nat) : Prop := ∃ f i, w 11 x = pu_I f ∧ f < fs ∧ i < Nl f ∧ Cw f 2 i = 20 ∧ w 12 x = pu_I (i + 1) ∧ w 13 x = 0 ∧ w 14 x = -1
def tv_tc (fs : Nat) (Nl : Nat → Nat) (w : ST) (c : Nat) : Prop := ∃ f i, w 11 c = pu_I f ∧ f < fs ∧ i < Nl f ∧ w 12 c = pu_I i ∧ w 13 c = 0 ∧ w 14 c = -1
def tv_C (fs : Nat) (Nl : Nat → Nat) (Cw : Nat → ST) (R : Nat) (w : ST) (c t : Nat) : Prop := tv_A w c t R ∧ c < 8 ∧ t ≤ 5000 ∧ (∀ x, x < c → tv_fc fs Nl Cw w x) ∧ tv_tc fs Nl w c
theorem tv_fc_fr {w w' : ST} {c x : Nat} (h : pm_fr c 0 R w w') (hx : x < c) (hf : tv_fc fs Nl Cw w x) : tv_fc fs Nl Cw w' x := by
  obtain ⟨f, i, h1, h2, h3, h4, h5, h6, h7⟩ := hf
  exact ⟨f, i, by rw [h.1 11 (Or.inl rfl) x hx]; exact h1, h2, h3, h4, by rw [h.1 12 (Or.inr (Or.inl rfl)) x hx]; exact h5, by rw [h.1 13 (Or.inr (Or.inr (Or.inl rfl))) x hx]; exact h6, by rw [h.1 14 (Or.inr (Or.inr (Or.inr rfl))) x hx]; exact h7⟩
theorem tv_mvC (hcc : pm_cc P fs np Cn Cw Nl R) (hn17 : 8 * R ≤ n17 17) (hn17' : n17 17 < 1000000) {w : ST} {c t : Nat} (h : tv_C fs Nl Cw R w c t) :
    ∃ w', fX3_moveInCode n17 w Cn Cw P = some w' ∧ w' 8 = w 8 ∧ (w' 0 8 = 0 ∨ ∃ c' t', tv_C fs Nl Cw R w' c' t' ∧ t < t') := by
  obtain ⟨hA, hc8, ht, hfc, f, i, h11, hf, hi, h12, h13, h14⟩ := h
  obtain ⟨hfs, hall⟩ := id hcc
  obtain ⟨hnp, hnp4, hN0, hN, hlns⟩ := hall f hf
  obtain ⟨hN2, hN3, hN4, hN5, hNN⟩ := id hN
  have hln := hlns i hi
  obtain ⟨l22, l23, l24, l25, l26, l27, ⟨lgv, lrg, l20, l21⟩, lkd, lnx⟩ := id hln
  have hf6 : f < 6 := by omega
  obtain ⟨e, m, q, ar, hBX, har⟩ := tv_bx (b := 0) hA h12 h11 h13 h14
  have hcR : (c + 1) * R = c * R + R := Nat.succ_mul c R
  have hcR8 : (c + 1) * R ≤ n17 17 := Nat.le_trans (Nat.mul_le_mul_right R (show c + 1 ≤ 8 by omega)) hn17
  rcases (pm_btk hBX ht).symm with ⟨hle, w', htick, s8, s0, sfr⟩ | ⟨hle, htick⟩
  · have hmv := pm_cT (n17 := n17) (Cn := Cn) (Cw := Cw) (P := P) hBX hc8 hf6 htick
    exact ⟨w', hmv, sfr.2.2.2.2.2.2, Or.inl s8⟩
  obtain ⟨z, hz⟩ : ∃ z : Nat → Int32, ∀ v, v < R → w 17 (c * R + v) = z v := ⟨fun v => w 17 (c * R + v), fun v _ => rfl⟩
  obtain ⟨g1, q1⟩ := pm_btick hBX (t + 1)
  obtain ⟨g2, q2⟩ := pm_bat g1 (pu_I (i + 1))
  have q3 := pm_fr_tr q1 q2
  obtain ⟨w9, hw9⟩ : ∃ w9, w9 = upw (upw w 0 2 (pu_I (t + 1))) 12 c (pu_I (i + 1)) := ⟨_, rfl⟩
  rw [← hw9] at g2 q2 q3
  have hCX9 : pm_CX w9 f c (i + 1) e m q z ar (t + 1) R := ⟨g2, fun v hv => by rw [hw9, pv_upw_n (by decide), pv_upw_n (by decide)]; exact hz v hv⟩
  have hcont : ∀ i2 e2 m2 q2 w2, i2 < Nl f → pm_BX w2 f c 0 (-1) (pu_I i2) e2 m2 q2 ar (t + 1) R → pm_fr c 0 R w w2 → fX3_moveInCode n17 w Cn Cw P = some w2 →
      ∃ w', fX3_moveInCode n17 w Cn Cw P = some w' ∧ w' 8 = w 8 ∧ (w' 0 8 = 0 ∨ ∃ c' t', tv_C fs Nl Cw R w' c' t' ∧ t < t') := fun i2 e2 m2 q2 w2 hi2 hc2 hfr2 hmv =>
    ⟨w2, hmv, hfr2.2.2.2.2.2.2, Or.inr ⟨c, t + 1, ⟨tv_xa hc2, hc8, hle, fun x hx => tv_fc_fr hfr2 hx (hfc x hx), f, i2, hc2.1.2.2.2.1, hf, hi2, hc2.1.2.2.1, hc2.1.2.2.2.2.1, hc2.1.2.2.2.2.2.1⟩, Nat.lt_succ_self t⟩⟩
  have hcell : ∀ {x : Int32}, ixb x 250 = true → ixb (pu_I c * 320 + x) 2560 = true ∧ w9 16 (nn (pu_I c * 320 + x)) = e x ∧ nn (pu_I c * 320 + x) = c * 320 + nn x := fun h => pm_bget g2 hc8 h
  have hset : ∀ (x y : Int32), ixb x 250 = true → pm_BX (upw w9 16 (c * 320 + nn x) y) f c 0 (-1) (pu_I (i + 1)) (pu_set e x y) m q ar (t + 1) R ∧ pm_fr c 0 R w (upw w9 16 (c * 320 + nn x) y) := fun x y hx => by
    obtain ⟨v0, v1⟩ := pv_ixn hx
    have h9 := pm_bcell g2 v1 y
    rw [← pu_of v0] at h9
    exact ⟨h9.1, pm_fr_tr q3 h9.2⟩
  have hat : ∀ j, pm_BX (upw w9 12 c (pu_I j)) f c 0 (-1) (pu_I j) e m q ar (t + 1) R ∧ pm_fr c 0 R w (upw w9 12 c (pu_I j)) := fun j => by
    have h9 := pm_bat g2 (pu_I j)
    exact ⟨h9.1, pm_fr_tr q3 h9.2⟩
  have hslot : ∀ s, s < R → pu_I c * w9 0 17 + pu_I s = pu_I (c * R + s) ∧ ixb (pu_I (c * R + s)) (n17 17) = true ∧ nn (pu_I (c * R + s)) = c * R + s := fun s hs => by
    refine ⟨?_, (pu_ix (by omega)).mpr (by omega), pu_nn (by omega)⟩
    rw [g2.1.2.2.2.2.2.2.2.2.1, pv_mul, pv_add]
  rcases lkd with hk | hk | hk | hk | hk
  · have hne := pu_kw_ne hk
    have hnx := lnx hne.1 hne.2.2.2
    by_cases k25 : Cw f 2 i = 25
    · obtain ⟨a1, a2⟩ := l25 k25
      obtain ⟨c1, c2, c3⟩ := hcell a1
      obtain ⟨d1, d2, d3⟩ := hcell a2
      have hmv := pm_c25 (n17 := n17) (P := P) (Cn := Cn) (Cw := Cw) hBX hc8 hf6 hi hN2 hN4 hNN htick hw9 k25 hN3 d1 c1
      obtain ⟨x1, x2⟩ := hset (Cw f 3 i) (e (Cw f 4 i)) a1
      rw [c3, d2] at hmv
      exact hcont _ _ _ _ _ hnx x1 x2 hmv
    by_cases k26 : Cw f 2 i = 26
    · obtain ⟨a1, s, s1, s2⟩ := l26 k26
      obtain ⟨c1, c2, c3⟩ := hcell a1
      obtain ⟨d1, d2, d3⟩ := hslot s s1
      have hmv := pm_c26 (n17 := n17) (P := P) (Cn := Cn) (Cw := Cw) hBX hc8 hf6 hi hN2 hN4 hNN htick hw9 k26 hN3 (by rw [s2, d1]; exact d2) c1
      obtain ⟨x1, x2⟩ := hset (Cw f 3 i) (z s) a1
      rw [c3, s2, d1, d3, hCX9.2 s s1] at hmv
      exact hcont _ _ _ _ _ hnx x1 x2 hmv
    by_cases k27 : Cw f 2 i = 27
    · obtain ⟨a1, s, s1, s2⟩ := l27 k27
      obtain ⟨c1, c2, c3⟩ := hcell a1
      obtain ⟨d1, d2, d3⟩ := hslot s s1
      have hmv := pm_c27 (n17 := n17) (P := P) (Cn := Cn) (Cw := Cw) hBX hc8 hf6 hi hN2 hN4 hNN htick hw9 k27 hN5 c1 (by rw [s2, d1]; exact d2)
      rw [s2, d1, d3, c2] at hmv
      refine hcont (i + 1) e m q _ hnx ?_ ?_ hmv
      · obtain ⟨⟨h1, h2, h3, h4, h5, h6, h7, h8, h9, h10⟩, hq, hcl, hm, har⟩ := g2
        have er : ∀ r, r ≠ 17 → upw w9 17 (c * R + s) (e (Cw f 4 i)) r = w9 r := fun r hr => pv_upw_n hr
        exact ⟨⟨by rw [er 0 (by decide)]; exact h1, by rw [er 0 (by decide)]; exact h2, by rw [er 12 (by decide)]; exact h3, by rw [er 11 (by decide)]; exact h4, by rw [er 13 (by decide)]; exact h5, by rw [er 14 (by decide)]; exact h6, by rw [er 0 (by decide)]; exact h7, by rw [er 0 (by decide)]; exact h8, by rw [er 0 (by decide)]; exact h9, by rw [er 0 (by decide)]; exact h10⟩, by rw [er 19 (by decide)]; exact hq, by rw [er 16 (by decide)]; exact hcl, by rw [er 4 (by decide)]; exact hm, by rw [er 15 (by decide)]; exact har⟩
      · refine pm_fr_tr q3 ⟨fun r hr j hj => by rw [pv_upw_n (by rcases hr with h | h | h | h <;> rw [h] <;> decide)], fun z hz => by rw [pv_upw_n (by decide)], fun z hz => by rw [pv_upw_n (by decide)], fun z hz => by rw [pv_upw, if_neg fun h => by omega], fun z hz => absurd hz (Nat.not_lt_zero z), by rw [pv_upw_n (by decide)], by rw [pv_upw_n (by decide)]⟩
    have hkd : pu_gk (Cw f 2 i) = true ∨ Cw f 2 i = 18 ∨ Cw f 2 i = 19 := by
      rcases hk with h | h | h | h | h | h
      · exact Or.inl h
      · exact Or.inr (Or.inl h)
      · exact Or.inr (Or.inr h)
      · exact absurd h k25
      · exact absurd h k26
      · exact absurd h k27
    have hmv := pm_cel (n17 := n17) (P := P) (Cn := Cn) (Cw := Cw) hBX hc8 hf6 hi hN2 hN4 hNN htick hw9 hkd
    by_cases h20 : Cw f 2 i = 20
    · rw [if_pos h20] at hmv
      by_cases hc7 : c = 7
      · rw [pm_enter8 (w := w9) (P := P) (n17 := n17) (way := 2) (f := Cw f 4 i) (by rw [g2.1.2.1, hc7])] at hmv
        exact ⟨_, hmv, (pm_fr_tr q3 (pm_fr_stop c 0 R _ 3)).2.2.2.2.2.2, Or.inl (by rw [pv_upw, if_pos ⟨rfl, rfl⟩])⟩
      · obtain ⟨hgn, hgf⟩ := pv_ixn (l20 h20)
        obtain ⟨g, hgdef⟩ : ∃ g, g = nn (Cw f 4 i) := ⟨_, rfl⟩
        have hgI : Cw f 4 i = pu_I g := by rw [hgdef]; exact pu_of hgn
        rw [← hgdef] at hgf
        obtain ⟨hnpg, hnpg4, hNg0, _, _⟩ := hall g hgf
        obtain ⟨k, hk9, a19⟩ := (tv_xa g2).2.2.1
        obtain ⟨w6, q6, e1, e2, e3, e4, e5, e6, e7, e8, e9, e10⟩ := tv_enter (w := w9) (P := P) (n17 := n17) (c := c + 1) (f := g) (p := np g) (q := k) (R := R) (way := 2) (at0 := 0) g2.1.2.1 (by omega) (by omega) hnpg hnpg4 a19 hk9 g2.1.2.2.2.2.2.2.2.2.1 hn17 hn17' (by rw [if_neg (by decide), if_neg (by decide)])
        rw [hgI, e1] at hmv
        refine ⟨w6, hmv, by rw [e10.2.2.2.2.2.2, q3.2.2.2.2.2.2], Or.inr ⟨c + 1, t + 1, ⟨⟨by rw [e5 8 (by decide) (by decide)]; exact g2.1.1, e3, ⟨q6, e2, e4⟩, by rw [e5 2 (by decide) (by decide)]; exact g2.1.2.2.2.2.2.2.2.1, by rw [e5 17 (by decide) (by decide)]; exact g2.1.2.2.2.2.2.2.2.2.1, by rw [e5 1 (by decide) (by decide)]; exact g2.1.2.2.2.2.2.2.2.2.2⟩, by omega, hle, fun x hx => ?_, g, 0, e6, hgf, hNg0, e9, e7, e8⟩, Nat.lt_succ_self t⟩⟩
        refine tv_fc_fr e10 hx ?_
        by_cases hxc : x = c
        · subst hxc
          exact ⟨f, i, g2.1.2.2.2.1, hf, hi, h20, g2.1.2.2.1, g2.1.2.2.2.2.1, g2.1.2.2.2.2.2.1⟩
        · exact tv_fc_fr q3 (by omega) (hfc x (by omega))
    · rw [if_neg h20] at hmv
      obtain ⟨w6, e1, e2, e3⟩ := pm_cstp (n17 := n17) (P := P) hN hi hln hc8 hkd h20 (by omega) (by omega) hCX9 (call := fun _ _ _ => none)
      rw [e1] at hmv
      obtain ⟨o, ho⟩ := tv_stp (call := fun _ _ _ => none) (ar := ar) (g := Cw f 3 i) (l := Cw f 4 i) (r := Cw f 5 i) (e := e) (m := m) (q := q) h20
      rcases e3 o ho with ⟨_, s8, _⟩ | ⟨e', m', q', _, s1⟩
      · exact ⟨w6, hmv, (pm_fr_tr q3 e2).2.2.2.2.2.2, Or.inl s8⟩
      · exact hcont _ _ _ _ _ hnx s1.1 (pm_fr_tr q3 e2) hmv
  · obtain ⟨j, j1, j2⟩ := l22 hk
    have hmv := pm_c22 (n17 := n17) (P := P) (Cn := Cn) (Cw := Cw) hBX hc8 hf6 hi hN2 hN4 hNN htick hw9 hk
    rw [j2] at hmv
    exact hcont _ _ _ _ _ j1 (hat j).1 (hat j).2 hmv
  · obtain ⟨a1, j, j1, j2⟩ := l23 (Or.inl hk)
    obtain ⟨c1, c2, c3⟩ := hcell a1
    have hmv := pm_c23 (n17 := n17) (P := P) (Cn := Cn) (Cw := Cw) hBX hc8 hf6 hi hN2 hN4 hNN htick hw9 hk hN5 c1
    rw [c2, j2] at hmv
    by_cases h0 : e (Cw f 4 i) = 0
    · rw [if_pos h0] at hmv
      exact hcont _ _ _ _ _ (lnx (by rw [hk]; decide) (by rw [hk]; decide)) hCX9.1 q3 hmv
    · rw [if_neg h0] at hmv
      exact hcont _ _ _ _ _ j1 (hat j).1 (hat j).2 hmv
  · obtain ⟨a1, j, j1, j2⟩ := l23 (Or.inr hk)
    obtain ⟨c1, c2, c3⟩ := hcell a1
    have hmv := pm_c28 (n17 := n17) (P := P) (Cn := Cn) (Cw := Cw) hBX hc8 hf6 hi hN2 hN4 hNN htick hw9 hk hN5 c1
    rw [c2, j2] at hmv
    by_cases h0 : e (Cw f 4 i) = 0
    · rw [if_pos h0] at hmv
      exact hcont _ _ _ _ _ j1 (hat j).1 (hat j).2 hmv
    · rw [if_neg h0] at hmv
      exact hcont _ _ _ _ _ (lnx (by rw [hk]; decide) (by rw [hk]; decide)) hCX9.1 q3 hmv
  · have a1 := l24 hk
    obtain ⟨c1, c2, c3⟩ := hcell a1
    by_cases hc0 : c = 0
    · have hmv := pm_c24 (n17 := n17) (P := P) (Cn := Cn) (Cw := Cw) hBX hc8 hf6 hi hN2 hN4 hNN htick hw9 hk c1 g2.1.2.1 hc0
      refine ⟨_, hmv, ?_, Or.inl ?_⟩
      · rw [pv_upw_n (by decide), pv_upw_n (by decide), pv_upw_n (by decide), pv_upw_n (by decide)]
        exact q3.2.2.2.2.2.2
      · rw [pv_upw, if_neg fun h => absurd h.2 (by decide), pv_upw, if_pos ⟨rfl, rfl⟩]
    · obtain ⟨c', hc'⟩ : ∃ c', c = c' + 1 := ⟨c - 1, by omega⟩
      obtain ⟨g, i', y11, yf, yi, y20, y12, y13, y14⟩ := hfc c' (by omega)
      obtain ⟨gnp, gnp4, gN0, ⟨gN2, gN3, gN4, gN5, gNN⟩, glns⟩ := hall g yf
      have gln := glns i' yi
      have hv : ixb (Cw g 3 i') 250 = true := gln.2.2.2.2.2.2.1.1 (by rw [y20]; decide)
      have hmv := pm_c24r (n17 := n17) (P := P) (Cn := Cn) (Cw := Cw) hBX hc8 hf6 hi hN2 hN4 hNN htick hw9 hk c1 g2.1.2.1 hc' (g := g) (i' := i') (by omega) (by rw [q3.1 11 (Or.inl rfl) c' (by omega)]; exact y11) (by rw [q3.1 12 (Or.inr (Or.inl rfl)) c' (by omega)]; exact y12) (by omega) (by omega) hv
      have er : ∀ r, r ≠ 0 → r ≠ 16 → upw (upw w9 0 9 (pu_I c)) 16 (c' * 320 + nn (Cw g 3 i')) (w9 16 (nn (pu_I c * 320 + Cw f 4 i))) r = w9 r := fun r r0 r16 => by rw [pv_upw_n r16, pv_upw_n r0]
      have e0 : ∀ y, y ≠ 9 → upw (upw w9 0 9 (pu_I c)) 16 (c' * 320 + nn (Cw g 3 i')) (w9 16 (nn (pu_I c * 320 + Cw f 4 i))) 0 y = w9 0 y := fun y y9 => by rw [pv_upw_n (show (0 : Nat) ≠ 16 by decide), pv_upw, if_neg fun h => y9 h.2]
      have hinx := gln.2.2.2.2.2.2.2.2 (by rw [y20]; decide) (by rw [y20]; decide)
      obtain ⟨a8, a9, ⟨k, hk9, a19⟩, a2, a17, a10⟩ := tv_xa g2
      refine ⟨_, hmv, by rw [er 8 (by decide) (by decide)]; exact q3.2.2.2.2.2.2, Or.inr ⟨c', t + 1, ⟨⟨by rw [e0 8 (by decide)]; exact a8, ?_, ⟨k, hk9, by rw [e0 19 (by decide)]; exact a19⟩, by rw [e0 2 (by decide)]; exact a2, by rw [e0 17 (by decide)]; exact a17, by rw [e0 1 (by decide)]; exact a10⟩, by omega, hle, fun x hx => ?_, g, i' + 1, ?_, yf, hinx, ?_, ?_, ?_⟩, Nat.lt_succ_self t⟩⟩
      · rw [pv_upw_n (show (0 : Nat) ≠ 16 by decide), pv_upw, if_pos ⟨rfl, rfl⟩, hc']
      · obtain ⟨f2, i2, z1, z2, z3, z4, z5, z6, z7⟩ := tv_fc_fr q3 (show x < c by omega) (hfc x (by omega))
        exact ⟨f2, i2, by rw [er 11 (by decide) (by decide)]; exact z1, z2, z3, z4, by rw [er 12 (by decide) (by decide)]; exact z5, by rw [er 13 (by decide) (by decide)]; exact z6, by rw [er 14 (by decide) (by decide)]; exact z7⟩
      · rw [er 11 (by decide) (by decide), q3.1 11 (Or.inl rfl) c' (by omega)]; exact y11
      · rw [er 12 (by decide) (by decide), q3.1 12 (Or.inr (Or.inl rfl)) c' (by omega)]; exact y12
      · rw [er 13 (by decide) (by decide), q3.1 13 (Or.inr (Or.inr (Or.inl rfl))) c' (by omega)]; exact y13
      · rw [er 14 (by decide) (by decide), q3.1 14 (Or.inr (Or.inr (Or.inr rfl))) c' (by omega)]; exact y14
theorem tv_goC (hcc : pm_cc P fs np Cn Cw Nl R) (hn17 : 8 * R ≤ n17 17) (hn17' : n17 17 < 1000000) : ∀ (K : Nat) (w : ST) (c t : Nat), tv_C fs Nl Cw R w c t → 5000 - t ≤ K →
    ∃ j w', j ≤ K + 1 ∧ pm_go (fun w => fX3_moveInCode n17 w Cn Cw P) j w w' ∧ w' 8 = w 8 ∧ w' 0 8 = 0 := by
  intro K
  induction K with
  | zero =>
    intro w c t h hK
    obtain ⟨w', e1, e2, e3⟩ := tv_mvC hcc hn17 hn17' h
    have h0 : ¬ w 0 8 = 0 := by rw [h.1.1]; decide
    rcases e3 with e3 | ⟨c', t', e3, e4⟩
    · exact ⟨1, w', by omega, pm_go_1 h0 e1, e2, e3⟩
    · have := e3.2.2.1
      omega
  | succ K ih =>
    intro w c t h hK
    obtain ⟨w', e1, e2, e3⟩ := tv_mvC hcc hn17 hn17' h
    have h0 : ¬ w 0 8 = 0 := by rw [h.1.1]; decide
    rcases e3 with e3 | ⟨c', t', e3, e4⟩
    · exact ⟨1, w', by omega, pm_go_1 h0 e1, e2, e3⟩
    · have := e3.2.2.1
      obtain ⟨j, w2, j1, j2, j3, j4⟩ := ih w' c' t' e3 (by omega)
      exact ⟨j + 1, w2, by omega, ⟨h0, w', e1, j2⟩, by rw [j3, e2], j4⟩
/-- room for slots, and how much -/
theorem tv_slots2 {L : ST} {sl : Nat → Nat} (hP : P 0 0 = pu_I fs) (hfs : fs ≤ 6) (hsl : ∀ f, f < fs → L 3 f = pu_I (sl f) ∧ sl f ≤ 2000) (hn : n17 17 < 1000000) :
    ∃ x, 8 * pm_mx sl fs ≤ x ∧ x < 1000000 ∧ (x = n17 17 ∨ x ≤ pm_mx sl fs * 8 + pm_mx sl fs * 8 / 2) ∧ ∀ w : ST, ∃ w5, fX3_makeSlots n17 w 2 P L = some (w5, stn n17 17 x) ∧ w5 0 17 = pu_I (pm_mx sl fs) ∧ (∀ j, j ≠ 17 → w5 0 j = w 0 j) ∧ (∀ r, r ≠ 0 → r ≠ 17 → w5 r = w r) := by
  have hb : ∀ k, k ≤ fs → pm_mx sl k ≤ 2000 := fun k hk => pm_mx_le k fun f hf => (hsl f (by omega)).2
  have hmx := hb fs (Nat.le_refl _)
  refine ⟨if 8 * pm_mx sl fs ≤ n17 17 then n17 17 else pm_mx sl fs * 8 + pm_mx sl fs * 8 / 2, by split <;> omega, by split <;> omega, (by by_cases h : 8 * pm_mx sl fs ≤ n17 17 <;> simp [h]), fun w => ?_⟩
  obtain ⟨o7, h1, h2, h3, h4⟩ := pv_for (G := fun k i (s : ST) => fX3_makeSlots_L7 2 P L k i s) (hi := fs)
    (Inv := fun k (s : ST) => s 0 17 = pu_I (pm_mx sl k) ∧ (∀ j, j ≠ 17 → s 0 j = w 0 j) ∧ (∀ r, r ≠ 0 → s r = w r) ∧ k ≤ fs)
    (Q := fun (s : ST) => s 0 17 = pu_I (pm_mx sl fs) ∧ (∀ j, j ≠ 17 → s 0 j = w 0 j) ∧ (∀ r, r ≠ 0 → s r = w r))
    (fun k i s hi hI => by
      obtain ⟨i1, i2, i3, i4⟩ := hI
      obtain ⟨s1, s2⟩ := hsl i hi
      have hmi := hb i i4
      have hmax : (if s 0 17 < L 3 i then L 3 i else s 0 17) = pu_I (pm_mx sl (i + 1)) := by
        rw [i1, s1]
        show _ = pu_I (max (pm_mx sl i) (sl i))
        by_cases h : pm_mx sl i < sl i
        · rw [if_pos ((pu_lt (by omega) (by omega)).mpr h), Nat.max_eq_right (by omega)]
        · rw [if_neg fun h9 => h ((pu_lt (by omega) (by omega)).mp h9), Nat.max_eq_left (by omega)]
      refine ⟨upw s 0 17 (pu_I (pm_mx sl (i + 1))), ?_, by rw [pv_upw, if_pos ⟨rfl, rfl⟩], fun j hj => by rw [pv_upw, if_neg fun h => hj h.2, i2 j hj], fun r hr => by rw [pv_upw_n hr, i3 r hr], by omega⟩
      show (if (2 : Int32) ≤ 1 then some s else (if (P 0 0) ≤ pu_I i then some s else (if ixb (pu_I i) 6 = true then (lt9 (upw s 0 17 (if (s 0 17) < (L 3 (nn (pu_I i))) then (L 3 (nn (pu_I i))) else (s 0 17))) fun (w5 : ST) => ((fX3_makeSlots_L7 2 P L k) (pu_I i + 1) w5)) else none))) = _
      simp only [lt9]
      rw [if_neg (show ¬ (2 : Int32) ≤ 1 by decide), hP, if_neg (by rw [pu_le (by omega) (by omega)]; omega), if_pos ((pu_ix (by omega)).mpr (by omega)), pu_nn (by omega), hmax, pu_su])
    (fun k s hI => by
      obtain ⟨i1, i2, i3, i4⟩ := hI
      refine ⟨s, ?_, i1, i2, i3⟩
      show (if (2 : Int32) ≤ 1 then some s else (if (P 0 0) ≤ pu_I fs then some s else _)) = _
      rw [if_neg (show ¬ (2 : Int32) ≤ 1 by decide), hP, if_pos (Int32.le_refl _)])
    fs 0 NF (upw w 0 17 0) (by omega) (by have := pv_NF; omega) ⟨by rw [pv_upw, if_pos ⟨rfl, rfl⟩]; rfl, fun j hj => by rw [pv_upw, if_neg fun h => hj h.2], fun r hr => by rw [pv_upw_n hr], Nat.zero_le _⟩
  obtain ⟨x, g, e1, _, e3⟩ := pv_atLeast (n := n17 17) (k := pm_mx sl fs * 8) (f := o7 17) (by omega) hn
  have hx : x = if 8 * pm_mx sl fs ≤ n17 17 then n17 17 else pm_mx sl fs * 8 + pm_mx sl fs * 8 / 2 := by
    rcases e3 with ⟨a1, a2⟩ | ⟨a1, a2⟩
    · rw [if_pos (by omega), a2]
    · rw [if_neg (by omega), a2]
  rw [← hx]
  refine ⟨srw o7 17 g, ?_, by rw [pv_srw_n (by decide)]; exact h2, fun j hj => by rw [pv_srw_n (by decide)]; exact h3 j hj, fun r r0 r17 => by rw [pv_srw_n r17]; exact h4 r r0⟩
  have h1 : fX3_makeSlots_L7 2 P L NF 0 (upw w 0 17 0) = some o7 := h1
  have e1 : fX11_atLeast (n17 17) (o7 17) ((o7 0 17) * 8) = some (x, g) := by
    rw [h2, show (8 : Int32) = pu_I 8 from rfl, pv_mul]
    exact e1
  unfold fX3_makeSlots
  simp only [lt9]
  rw [h1, Option.bind_some, e1]
  rfl
/-- code: a run has an end -/
theorem tv_start2 {sl : Nat → Nat} (hcc : pm_cc P fs np Cn Cw Nl (pm_mx sl fs)) (hP : P 0 0 = pu_I fs) {w LL : ST} (hsl : ∀ f, f < fs → LL 3 f = pu_I (sl f) ∧ sl f ≤ 2000) {f : Nat} (hf : f < fs) (hn : n17 17 < 1000000) (Bn : Nat → Nat → Nat) (Bw : Nat → ST) (Sn : Nat → Nat → Nat) (Sw : Nat → ST) :
    ∃ w' x, x < 1000000 ∧ (x = n17 17 ∨ x ≤ pm_mx sl fs * 8 + pm_mx sl fs * 8 / 2) ∧ fX3_start n17 w 2 (pu_I f) P LL Bn Bw Sn Sw Cn Cw = some (w', stn n17 17 x) ∧ w' 8 = w 8 := by
  obtain ⟨hfs, hall⟩ := id hcc
  obtain ⟨hnp, hnp4, hN0, _⟩ := hall f hf
  obtain ⟨x, x1, x2, x3, x4⟩ : ∃ x, 8 * pm_mx sl fs ≤ x ∧ x < 1000000 ∧ (x = n17 17 ∨ x ≤ pm_mx sl fs * 8 + pm_mx sl fs * 8 / 2) ∧ ∀ w4 : ST, ∃ w5, fX3_makeSlots n17 w4 2 P LL = some (w5, stn n17 17 x) ∧ w5 0 17 = pu_I (pm_mx sl fs) ∧ (∀ j, j ≠ 17 → w5 0 j = w4 0 j) ∧ (∀ r, r ≠ 0 → r ≠ 17 → w5 r = w4 r) := tv_slots2 hP hfs hsl hn
  have hstx : stn n17 17 x 17 = x := by unfold stn; exact if_pos rfl
  obtain ⟨w6, w5, b1, b2, b3, b4, b5, b6, b7, b8, b9, b10, b11, b12, b13, b14, b15, b16, b17, b18, b19⟩ := pm_open (n17 := n17) (P := P) (w := w) (L := LL) (f := f) (p := np f) (way := 2) (at0 := 0) (R := pm_mx sl fs) (n1 := stn n17 17 x) (by omega) hnp hnp4 (fun w4 _ => by
    obtain ⟨w5, c1, c2, c3, c4⟩ := x4 w4
    exact ⟨w5, _, c1, c2, by rw [hstx]; exact x1, by rw [hstx]; exact x2, c3, c4, rfl⟩) (by rw [if_neg (by decide), if_neg (by decide)])
  obtain ⟨j, w', g1, g2, g3, g4⟩ := tv_goC hcc (n17 := stn n17 17 x) b17 b18 5000 w6 0 0 ⟨⟨b1, b2, ⟨0, by omega, b7⟩, b8, b9, b10⟩, by omega, by omega, fun x hx => absurd hx (Nat.not_lt_zero x), f, 0, b6, hf, hN0, b3, b4, b5⟩ (by omega)
  have hL := pm_L67 (P := P) (p1 := 2) (Bn := Bn) (Bw := Bw) (Sn := Sn) (Sw := Sw) (Cn := Cn) (Cw := Cw) (o5 := (w5, stn n17 17 x)) (mv := fun w => fX3_moveInCode (stn n17 17 x) w Cn Cw P) (fun w => by rw [if_neg (by decide), if_neg (by decide)]) j NF 0 w6 w' g2 g4 (by omega) (by have := pv_NF; omega)
  exact ⟨w', x, x2, x3, b19 Bn Bw Sn Sw Cn Cw w' hL, by rw [g3]; exact b16⟩
end TC
