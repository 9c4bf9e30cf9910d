/-! pure side, totality 3: blocks run to an end, whatever they hold -/
section TB
variable {P : ST} {fs : Nat} {np : Nat → Nat} {Ns N2 : Nat → Nat → Nat} {W W2 : Nat → ST} {L : Nat → SL} {B N M Lm : Nat → Nat} {D : Nat → Nat → Nat → Prop} {ch ph : Nat → Nat → List Nat} {wb dm : Nat → Nat → Nat} {n17 : Nat → Nat} {R : Nat}
/-- a call that waits for another -/
def tv_fb (fs : Nat) (B : Nat → Nat) (ch : Nat → Nat → List Nat) (W2 : Nat → ST) (w : ST) (x : Nat) : Prop :=
  ∃ f b l1 a l2, w 11 x = pu_I f ∧ f < fs ∧ w 13 x = pu_I b ∧ b < B f ∧ ch f b = l1 ++ a :: l2 ∧ W2 f 2 a = 20 ∧ w 12 x = W2 f 6 a
/-- the call that runs -/
def tv_tb (fs : Nat) (B : Nat → Nat) (ch ph : Nat → Nat → List Nat) (W W2 : Nat → ST) (w : ST) (c z : Nat) : Prop :=
  ∃ f b, w 11 c = pu_I f ∧ f < fs ∧ w 13 c = pu_I b ∧ b < B f ∧ ((z = 1 ∧ w 12 c = -2 ∧ (ph f b = [] ∨ ∃ p, p < B f ∧ w 14 c = pu_I p ∧ pv_eg (W f) p b)) ∨ (z = 0 ∧ ∃ l1 l2, ch f b = l1 ++ l2 ∧ pv_ch (W2 f 6) (w 12 c) l2))
def tv_B (fs : Nat) (B : Nat → Nat) (ch ph : Nat → Nat → List Nat) (W W2 : Nat → ST) (R : Nat) (w : ST) (c t z : Nat) : Prop :=
  tv_A w c t R ∧ c < 8 ∧ t ≤ 5000 ∧ (∀ x, x < c → tv_fb fs B ch W2 w x) ∧ tv_tb fs B ch ph W W2 w c z
theorem tv_fb_fr {w w' : ST} {c x : Nat} (h : pm_fr c 0 R w w') (hx : x < c) (hf : tv_fb fs B ch W2 w x) : tv_fb fs B ch W2 w' x := by
  obtain ⟨f, b, l1, a, l2, h1, h2, h3, h4, h5, h6, h7⟩ := hf
  exact ⟨f, b, l1, a, l2, by rw [h.1 11 (Or.inl rfl) x hx]; exact h1, h2, by rw [h.1 13 (Or.inr (Or.inr (Or.inl rfl))) x hx]; exact h3, h4, h5, h6, by rw [h.1 12 (Or.inr (Or.inl rfl)) x hx]; exact h7⟩
theorem tv_tl {nx : Nat → Int32} {a : Nat} {k2 : List Nat} : ∀ (k1 : List Nat) (x : Int32), pv_ch nx x (k1 ++ a :: k2) → pv_ch nx (nx a) k2 := by
  intro k1
  induction k1 with
  | nil => intro x h; exact h.2
  | cons y k1 ih => intro x h; exact ih _ h.2
theorem tv_stp {call : pu_Call} {ar : List Int32} {k g l r : Int32} {e : pu_E} {m : pu_M} {q : List Int32} (h : k ≠ 20) : ∃ o, pu_stp call ar k g l r e m q = some o := by
  unfold pu_stp
  by_cases k0 : k = 0
  · exact ⟨_, if_pos k0⟩
  rw [if_neg k0]
  by_cases k21 : k = 21
  · exact ⟨_, if_pos k21⟩
  rw [if_neg k21, if_neg h]
  by_cases k17 : k = 17
  · exact ⟨_, if_pos k17⟩
  rw [if_neg k17]
  by_cases k18 : k = 18
  · exact ⟨_, if_pos k18⟩
  rw [if_neg k18]
  by_cases k19 : k = 19
  · exact ⟨_, if_pos k19⟩
  rw [if_neg k19]
  by_cases kf : pu_fail k (e r) = true
  · exact ⟨_, if_pos kf⟩
  · exact ⟨_, if_neg kf⟩
theorem tv_mvB (hcl : pm_cl P fs np Ns N2 W W2 L B N M Lm D ch ph wb dm) (hn17 : 8 * R ≤ n17 17) (hn17' : n17 17 < 1000000) {w : ST} {c t z : Nat} (h : tv_B fs B ch ph W W2 R w c t z) :
    ∃ w', fX3_moveInBlocks n17 w Ns W N2 W2 P = some w' ∧ w' 8 = w 8 ∧ (w' 0 8 = 0 ∨ ∃ c' t' z', tv_B fs B ch ph W W2 R w' c' t' z' ∧ 2 * (5000 - t') + z' < 2 * (5000 - t) + z) := by
  obtain ⟨hA, hc8, ht, hfb, f, b, h11, hf, h13, hb, hz⟩ := h
  obtain ⟨hfs, hall⟩ := id hcl
  obtain ⟨hfl, hnp, hnp4⟩ := hall f hf
  have hf6 : f < 6 := by omega
  have hb60 : b < 60 := by have := hfl.1.1.1.2.2; omega
  obtain ⟨⟨⟨⟨_, _, hB⟩, ⟨hN2, hN3, hN4, hN5, hN6, hN⟩, _, hst, hdis, _, _, _, hg9⟩, _, hgk, _⟩, _⟩ := id hfl
  obtain ⟨e, m, q, ar, hBX, har⟩ := tv_bx hA rfl h11 h13 rfl
  rcases hz with ⟨rfl, hat, hp⟩ | ⟨rfl, l1, l2, hl, hx⟩
  · rw [hat] at hBX
    have hmv := pm_mvE (n17 := n17) (Ns := Ns) (N2 := N2) (W := W) (W2 := W2) (P := P) hBX hc8 hf6
    obtain ⟨w', e1, e2, e3⟩ := tv_enB hfl hb hc8 hBX ht hp
    rw [e1] at hmv
    refine ⟨w', hmv, e2.2.2.2.2.2.2, e3.imp id fun ⟨e', m', q', t', x1, x2, x3⟩ => ⟨c, t', 0, ⟨tv_xa x3, hc8, x2, fun x hx => tv_fb_fr e2 hx (hfb x hx), f, b, x3.1.2.2.2.1, hf, x3.1.2.2.2.2.1, hb, Or.inr ⟨rfl, [], ch f b, rfl, ?_⟩⟩, by omega⟩⟩
    rw [x3.1.2.2.1]
    exact hst.1 b hb
  · rcases pm_btk hBX ht with ⟨hle, htick⟩ | ⟨hle, w', htick, s8, s0, sfr⟩
    · obtain ⟨g1, q1⟩ := pm_btick hBX (t + 1)
      cases l2 with
      | nil =>
        have hx : w 12 c = -1 := hx
        rw [hx] at hBX g1
        have hmv := pm_mvX (n17 := n17) (Ns := Ns) (N2 := N2) (W := W) (W2 := W2) (P := P) hBX hc8 hf6 htick
        obtain ⟨hk1, hk2, hk3, hk4⟩ := hfl.2.1 b hb
        obtain ⟨y, hy, hed⟩ := pm_ed0 (W := W) (N2 := N2) (W2 := W2) g1 hc8 hb60 hk1
        rw [hed] at hmv
        by_cases h24 : W f 8 b = 24
        · rcases pm_edR (W := W) (N2 := N2) (W2 := W2) g1 hc8 hb60 (y := y) h24 with ⟨hc0, hR⟩ | ⟨c', rfl, hR⟩
          · rw [hR] at hmv
            refine ⟨_, hmv, ?_, Or.inl ?_⟩
            · rw [pv_upw_n (by decide), pv_upw_n (by decide), pv_upw_n (by decide), pv_upw_n (by decide), pv_upw_n (by decide)]
            · rw [pv_upw, if_neg fun h => absurd h.2 (by decide), pv_upw, if_pos ⟨rfl, rfl⟩]
          · obtain ⟨g, b', k1, a, k2, y11, yf, y13, yb, yl, y20, y12⟩ := hfb c' (Nat.lt_succ_self c')
            obtain ⟨gfl, gnp, gnp4⟩ := hall g yf
            obtain ⟨⟨⟨⟨_, _, gB⟩, ⟨gN2, gN3, gN4, gN5, gN6, gN⟩, _, gst, gdis, _, _, _, gg9⟩, _, ggk, _⟩, _⟩ := id gfl
            have hga : a ∈ ch g b' := by rw [yl]; exact List.mem_append_right _ List.mem_cons_self
            have hv : ixb (W2 g 3 a) 250 = true := (gg9 b' yb a hga).resolve_left ((ggk b' yb a hga).mp (by rw [y20]; decide))
            have er : ∀ r, r ≠ 0 → upw (upw w 0 2 (pu_I (t + 1))) 0 9 (pu_I (c' + 1)) r = w r := fun r hr => by rw [pv_upw_n hr, pv_upw_n hr]
            have e0 : ∀ y, y ≠ 2 → y ≠ 9 → upw (upw w 0 2 (pu_I (t + 1))) 0 9 (pu_I (c' + 1)) 0 y = w 0 y := fun y y2 y9 => by rw [pv_upw, if_neg fun h => y9 h.2, pv_upw, if_neg fun h => y2 h.2]
            have hR2 := hR g (by omega) (by rw [pv_upw_n (show (11 : Nat) ≠ 0 by decide)]; exact y11)
            have hch := gst.1 b' yb
            rw [yl] at hch
            have hgb := pm_gb (c := c') (b := b') (n2 := N2 g) (x9 := W2 g) (w9 := upw (upw w 0 2 (pu_I (t + 1))) 0 9 (pu_I (c' + 1))) (fw := W g) (a := a) (N := N g) (l1 := k1) (l2 := k2) (y := y) (by rw [pv_upw, if_pos ⟨rfl, rfl⟩]) (by omega) (by rw [er 13 (by decide)]; exact y13) (by omega) (by rw [er 12 (by decide)]; exact y12) gN6 gN3 gN hch (by rw [← yl]; exact gdis.2.1 b' yb) (fun z hz => gdis.1 b' yb z (by rw [yl]; exact hz)) hv
            rw [hR2, hgb] at hmv
            refine ⟨_, hmv, by rw [pv_upw_n (by decide), er 8 (by decide)], Or.inr ⟨c', t + 1, 0, ⟨?_, by omega, hle, fun x hx => ?_, g, b', ?_, yf, ?_, yb, Or.inr ⟨rfl, k1 ++ [a], k2, by rw [yl, List.append_assoc]; rfl, ?_⟩⟩, by omega⟩⟩
            · obtain ⟨a8, a9, ⟨k, hk, a19⟩, a2, a17, a1⟩ := hA
              refine ⟨?_, ?_, ⟨k, hk, ?_⟩, ?_, ?_, ?_⟩
              · rw [pv_upw_n (by decide), e0 8 (by decide) (by decide)]; exact a8
              · rw [pv_upw_n (by decide), pv_upw, if_pos ⟨rfl, rfl⟩]
              · rw [pv_upw_n (by decide), e0 19 (by decide) (by decide)]; exact a19
              · rw [pv_upw_n (by decide), pv_upw, if_neg fun h => absurd h.2 (by decide), pv_upw, if_pos ⟨rfl, rfl⟩]
              · rw [pv_upw_n (by decide), e0 17 (by decide) (by decide)]; exact a17
              · rw [pv_upw_n (by decide), e0 1 (by decide) (by decide)]; exact a1
            · obtain ⟨f', b2, l1, a', l2, z1, z2, z3, z4, z5, z6, z7⟩ := hfb x (by omega)
              exact ⟨f', b2, l1, a', l2, by rw [pv_upw_n (by decide), er 11 (by decide)]; exact z1, z2, by rw [pv_upw_n (by decide), er 13 (by decide)]; exact z3, z4, z5, z6, by rw [pv_upw_n (by decide), er 12 (by decide)]; exact z7⟩
            · rw [pv_upw_n (by decide), er 11 (by decide)]; exact y11
            · rw [pv_upw_n (by decide), er 13 (by decide)]; exact y13
            · rw [pv_upw_n (by decide), er 12 (by decide), y12]
              exact tv_tl k1 _ hch
        · obtain ⟨c1, hc1, hsc⟩ : ∃ c1, (if W f 8 b = 23 ∧ y = 0 then W f 11 b else W f 10 b) = pu_I c1 ∧ pu_sc (pv_F (W f) (W2 f) (ch f) (ph f)) b c1 := by
            by_cases h23 : W f 8 b = 23
            · obtain ⟨p10, p11⟩ := hk4.2.1 h23
              by_cases hy : y = 0
              · exact ⟨nn (W f 11 b), by rw [if_pos ⟨h23, hy⟩]; exact pu_of p11, h24, Or.inr ⟨h23, rfl⟩⟩
              · exact ⟨nn (W f 10 b), by rw [if_neg fun h => hy h.2]; exact pu_of p10, h24, Or.inl rfl⟩
            · have h22 : W f 8 b = 22 := by
                rcases hk3 with h | h | h
                · exact h
                · exact absurd h h23
                · exact absurd h h24
              exact ⟨nn (W f 10 b), by rw [if_neg fun h => h23 h.1]; exact pu_of (hk4.1 h22).1, h24, Or.inl rfl⟩
          have hc1B := hfl.2.2.2.1.2.1.1 b c1 hb hsc
          have heg : pv_eg (W f) b c1 := hfl.2.2.1 b c1 hb hsc
          obtain ⟨w3, r1, r2, r3⟩ := pm_edB (W := W) (N2 := N2) (W2 := W2) g1 hc8 hb60 h24 hc1
          rw [r1] at hmv
          have hfr := pm_fr_tr q1 r2
          exact ⟨w3, hmv, hfr.2.2.2.2.2.2, Or.inr ⟨c, t + 1, 1, ⟨tv_xa r3, hc8, hle, fun x hx => tv_fb_fr hfr hx (hfb x hx), f, c1, r3.1.2.2.2.1, hf, r3.1.2.2.2.2.1, hc1B, Or.inl ⟨rfl, r3.1.2.2.1, Or.inr ⟨b, hb, r3.1.2.2.2.2.2.1, heg⟩⟩⟩, by omega⟩⟩
      | cons a l2 =>
        obtain ⟨hxa, hx⟩ := hx
        rw [hxa] at hBX g1
        have ha : a ∈ ch f b := by rw [hl]; exact List.mem_append_right _ List.mem_cons_self
        have haN := hdis.1 b hb a ha
        obtain ⟨g2, q2⟩ := pm_bat g1 (W2 f 6 a)
        have q3 := pm_fr_tr q1 q2
        have hmv := pm_mvS (n17 := n17) (Ns := Ns) (N2 := N2) (W := W) (W2 := W2) (P := P) hBX hc8 hf6 (by omega) (by omega) htick
        by_cases h20 : W2 f 2 a = 20
        · have hms : fX3_moveStep n17 (upw (upw w 0 2 (pu_I (t + 1))) 12 c (W2 f 6 a)) (N2 f) (W2 f) (pu_I c) (pu_I a) P = fX3_enter n17 (upw (upw w 0 2 (pu_I (t + 1))) 12 c (W2 f 6 a)) 1 (W2 f 4 a) P := by
            unfold fX3_moveStep
            rw [if_pos ((pu_ix (by omega)).mpr (by omega)), if_pos ((pu_ix (by omega)).mpr (by omega)), pu_nn (by omega), h20, if_neg (show ¬ (20 : Int32) = 0 by decide), if_neg (show ¬ (20 : Int32) = 21 by decide), if_pos rfl]
            exact pm_bs _
          rw [hms] at hmv
          by_cases hc7 : c = 7
          · have hen8 := pm_enter8 (w := upw (upw w 0 2 (pu_I (t + 1))) 12 c (W2 f 6 a)) (P := P) (n17 := n17) (way := 1) (f := W2 f 4 a) (by rw [g2.1.2.1, hc7])
            rw [hen8] at hmv
            exact ⟨_, hmv, (pm_fr_tr q3 (pm_fr_stop c 0 R _ 3)).2.2.2.2.2.2, Or.inl (by rw [pv_upw, if_pos ⟨rfl, rfl⟩])⟩
          · have hpar := hfl.2.2.2.2.2.2.2.2.2.2.1 b hb a ha
            obtain ⟨hgn, hgf⟩ := pv_ixn (hpar.1 h20)
            obtain ⟨g, hgdef⟩ : ∃ g, g = nn (W2 f 4 a) := ⟨_, rfl⟩
            have hgI : W2 f 4 a = pu_I g := by rw [hgdef]; exact pu_of hgn
            rw [← hgdef] at hgf
            obtain ⟨gfl, hnpg, hnpg4⟩ := hall g hgf
            have hB0 : 0 < B g := gfl.1.1.1.2.1
            have hph0 : ph g 0 = [] := by
              have h8 : (ph g 0).map (pv_P (W g)) = [] := gfl.2.2.2.1.2.2.1
              exact List.map_eq_nil_iff.mp h8
            obtain ⟨k, hk, a19⟩ := (tv_xa g2).2.2.1
            obtain ⟨w6, q6, e1, e2, e3, e4, e5, e6, e7, e8, e9, e10⟩ := tv_enter (w := upw (upw w 0 2 (pu_I (t + 1))) 12 c (W2 f 6 a)) (P := P) (n17 := n17) (c := c + 1) (f := g) (p := np g) (q := k) (R := R) (way := 1) (at0 := -2) g2.1.2.1 (by omega) (by omega) hnpg hnpg4 a19 hk g2.1.2.2.2.2.2.2.2.2.1 hn17 hn17' (by rw [if_neg (by decide), if_pos rfl])
            rw [hgI, e1] at hmv
            refine ⟨w6, hmv, by rw [e10.2.2.2.2.2.2, q3.2.2.2.2.2.2], Or.inr ⟨c + 1, t + 1, 1, ⟨⟨by rw [e5 8 (by decide) (by decide)]; exact g2.1.1, e3, ⟨q6, e2, e4⟩, by rw [e5 2 (by decide) (by decide)]; exact g2.1.2.2.2.2.2.2.2.1, by rw [e5 17 (by decide) (by decide)]; exact g2.1.2.2.2.2.2.2.2.2.1, by rw [e5 1 (by decide) (by decide)]; exact g2.1.2.2.2.2.2.2.2.2.2⟩, by omega, hle, fun x hx => ?_, g, 0, e6, hgf, e7, hB0, Or.inl ⟨rfl, e9, Or.inl hph0⟩⟩, by omega⟩⟩
            refine tv_fb_fr e10 hx ?_
            by_cases hxc : x = c
            · subst hxc
              exact ⟨f, b, l1, a, l2, g2.1.2.2.2.1, hf, g2.1.2.2.2.2.1, hb, hl, h20, g2.1.2.2.1⟩
            · exact tv_fb_fr q3 (by omega) (hfb x (by omega))
        · obtain ⟨w3, r1, r2, r3⟩ := pm_stB (n17 := n17) (P := P) hfl hb hc8 ha g2 h20 (by omega) (by omega) (call := fun _ _ _ => none)
          rw [r1] at hmv
          have hfr := pm_fr_tr q3 r2
          obtain ⟨o, ho⟩ := tv_stp (call := fun _ _ _ => none) (ar := ar) (g := W2 f 3 a) (l := W2 f 4 a) (r := W2 f 5 a) (e := e) (m := m) (q := q) h20
          refine ⟨w3, hmv, hfr.2.2.2.2.2.2, ?_⟩
          rcases r3 o ho with ⟨_, s8, _⟩ | ⟨e', m', q', _, x3⟩
          · exact Or.inl s8
          · refine Or.inr ⟨c, t + 1, 0, ⟨tv_xa x3, hc8, hle, fun x hx => tv_fb_fr hfr hx (hfb x hx), f, b, x3.1.2.2.2.1, hf, x3.1.2.2.2.2.1, hb, Or.inr ⟨rfl, l1 ++ [a], l2, by rw [hl, List.append_assoc]; rfl, ?_⟩⟩, by omega⟩
            rw [x3.1.2.2.1]
            exact hx
    · have hne : w 12 c ≠ -2 := by
        cases l2 with
        | nil => rw [show w 12 c = -1 from hx]; decide
        | cons a l2 =>
          rw [hx.1]
          have haN := hdis.1 b hb a (by rw [hl]; exact List.mem_append_right _ List.mem_cons_self)
          exact fun h9 => pu_ge (k := a) (by omega) (by rw [h9]; decide)
      have hmv := pm_mvT (n17 := n17) (Ns := Ns) (N2 := N2) (W := W) (W2 := W2) (P := P) hBX hc8 hf6 hne htick
      exact ⟨w', hmv, sfr.2.2.2.2.2.2, Or.inl s8⟩
theorem tv_goB (hcl : pm_cl P fs np Ns N2 W W2 L B N M Lm D ch ph wb dm) (hn17 : 8 * R ≤ n17 17) (hn17' : n17 17 < 1000000) : ∀ (K : Nat) (w : ST) (c t z : Nat), tv_B fs B ch ph W W2 R w c t z → 2 * (5000 - t) + z ≤ K →
    ∃ j w', j ≤ K + 1 ∧ pm_go (fun w => fX3_moveInBlocks n17 w Ns W N2 W2 P) j w w' ∧ w' 8 = w 8 ∧ w' 0 8 = 0 := by
  intro K
  induction K with
  | zero =>
    intro w c t z h hK
    obtain ⟨w', e1, e2, e3⟩ := tv_mvB hcl hn17 hn17' h
    have h0 : ¬ w 0 8 = 0 := by rw [h.1.1]; decide
    rcases e3 with e3 | ⟨c', t', z', _, e4⟩
    · exact ⟨1, w', by omega, pm_go_1 h0 e1, e2, e3⟩
    · omega
  | succ K ih =>
    intro w c t z h hK
    obtain ⟨w', e1, e2, e3⟩ := tv_mvB hcl hn17 hn17' h
    have h0 : ¬ w 0 8 = 0 := by rw [h.1.1]; decide
    rcases e3 with e3 | ⟨c', t', z', e3, e4⟩
    · exact ⟨1, w', by omega, pm_go_1 h0 e1, e2, e3⟩
    · obtain ⟨j, w2, j1, j2, j3, j4⟩ := ih w' c' t' z' e3 (by omega)
      exact ⟨j + 1, w2, by omega, ⟨h0, w', e1, j2⟩, by rw [j3, e2], j4⟩
/-- blocks: a run has an end -/
theorem tv_start1 (hcl : pm_cl P fs np Ns N2 W W2 L B N M Lm D ch ph wb dm) {w LL : ST} {f : Nat} (hf : f < fs) (hn : n17 17 < 1000000) (Cn : Nat → Nat → Nat) (Cw : Nat → ST) :
    ∃ w', fX3_start n17 w 1 (pu_I f) P LL Ns W N2 W2 Cn Cw = some (w', stn n17 17 (n17 17)) ∧ w' 8 = w 8 := by
  obtain ⟨hfs, hall⟩ := id hcl
  obtain ⟨hfl, hnp, hnp4⟩ := hall f hf
  have hst : ∀ m : Nat → Nat, stn m 17 (m 17) 17 = m 17 := fun m => by
    unfold stn
    first | rfl | (split <;> rfl)
  have hB0 : 0 < B f := hfl.1.1.1.2.1
  have hph0 : ph f 0 = [] := by
    have h8 : (ph f 0).map (pv_P (W f)) = [] := hfl.2.2.2.1.2.2.1
    exact List.map_eq_nil_iff.mp h8
  obtain ⟨w6, w5, b1, b2, b3, b4, b5, b6, b7, b8, b9, b10, b11, b12, b13, b14, b15, b16, b17, b18, b19⟩ := pm_open (n17 := n17) (P := P) (w := w) (L := LL) (f := f) (p := np f) (way := 1) (at0 := -2) (R := 0) (n1 := stn n17 17 (n17 17)) (by omega) hnp hnp4 (fun w4 _ => by
    obtain ⟨w5, c1, c2, c3, c4⟩ := pm_slots0 (n17 := n17) (P := P) (w := w4) (L := LL) (way := 1) (Or.inr rfl) hn
    exact ⟨w5, _, c1, c2, by omega, by rw [hst]; exact hn, c3, c4, rfl⟩) (by rw [if_neg (by decide), if_pos rfl])
  obtain ⟨j, w', g1, g2, g3, g4⟩ := tv_goB hcl (n17 := stn n17 17 (n17 17)) (R := 0) (by omega) b18 10001 w6 0 0 1 ⟨⟨b1, b2, ⟨0, by omega, b7⟩, b8, b9, b10⟩, by omega, by omega, fun x hx => absurd hx (Nat.not_lt_zero x), f, 0, b6, hf, b4, hB0, Or.inl ⟨rfl, b3, Or.inl hph0⟩⟩ (by omega)
  have hL := pm_L67 (P := P) (p1 := 1) (Bn := Ns) (Bw := W) (Sn := N2) (Sw := W2) (Cn := Cn) (Cw := Cw) (o5 := (w5, stn n17 17 (n17 17))) (mv := fun w => fX3_moveInBlocks (stn n17 17 (n17 17)) w Ns W N2 W2 P) (fun w => by rw [if_neg (by decide), if_pos rfl]) j NF 0 w6 w' g2 g4 (by omega) (by have := pv_NF; omega)
  exact ⟨w', b19 Ns W N2 W2 Cn Cw w' hL, by rw [g3]; exact b16⟩
end TB
