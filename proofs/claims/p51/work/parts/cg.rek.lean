/-! pure side, the graph 14: the graph, reckoned -/
section RKW
variable {n n2 : Nat → Nat} {w fw x9 : ST} {l : SL} {B N V H wd : Nat} {qs : Nat → List Nat} {W : Nat → Int32 → Prop}
/-- what a graph says: who is near, how many are, and what is live at the beginning of blocks -/
def pg_gr (B H V wd : Nat) (fw x9 : ST) (qs : Nat → List Nat) (n : Nat → Nat) (w : ST) (l : SL) : Prop :=
  (w 0 0 = pu_I H ∧ w 0 1 = pu_I V ∧ w 0 2 = pu_I wd) ∧ pg_room B wd V n ∧ pg_in w l H V wd ∧
  (∀ v u, v < V → u < V → pg_ad w l H wd v u = true → pg_ad w l H wd u v = true) ∧ (∀ v, v < V → w 13 v = pu_I (pg_dg w l H V wd v)) ∧
  (∀ b, b < B → ∀ l1 a l2, qs b = l1 ++ a :: l2 → ∀ g v, pu_gw (x9 2 a) = true → x9 3 a = pu_I g → g < V → v < V → pu_lv (l2.map (pv_S x9)) (pu_xo (pg_F fw x9 qs) (pg_W H wd l) b) (pu_I v) → v ≠ g → (x9 2 a = 25 → pu_I v ≠ x9 4 a) → pg_ad w l H wd g v = true) ∧
  pu_lok (pg_F fw x9 qs) (fun b => b < B) (pg_W H wd l)
theorem pg_35 (hw0 : w 0 0 = pu_I H) (hw2 : w 0 2 = pu_I wd) (hH : H ≤ wd * 64) (hH2 : H < 100000) (hfl : pg_fl B N V fw x9 n2 qs) (h4 : B * wd ≤ n 4) (h5 : B * wd ≤ n 5) (hn4 : n 4 < 1000000) (hn5 : n 5 < 1000000) {o4 : ST × SL × (Nat → Nat)} (ho : o4.1 = w ∧ o4.2.2 = n) (l : SL) :
    ∃ l', fX2_reckon_L35 fw n2 x9 o4 NF 0 l = some l' ∧ (∀ r, r ≠ 4 → r ≠ 5 → l' r = l r) ∧ ∀ b h, b < B → h < wd * 64 → (pg_g l' 4 wd b h = true ↔ h < H ∧ pu_lv ((qs b).map (pv_S x9)) (pg_E fw b) (pu_I h)) ∧ (pg_g l' 5 wd b h = true ↔ h < H ∧ pg_gv ((qs b).map (pv_S x9)) (pu_I h)) := by
  have hB0 := hfl.1.1
  have hB := hfl.1.2.2
  refine pv_for (G := fun k i (s : SL) => fX2_reckon_L35 fw n2 x9 o4 k i s) (hi := B)
    (Inv := fun i (s : SL) => (∀ r, r ≠ 4 → r ≠ 5 → s r = l r) ∧ ∀ b h, b < i → h < wd * 64 → (pg_g s 4 wd b h = true ↔ h < H ∧ pu_lv ((qs b).map (pv_S x9)) (pg_E fw b) (pu_I h)) ∧ (pg_g s 5 wd b h = true ↔ h < H ∧ pg_gv ((qs b).map (pv_S x9)) (pu_I h)))
    (Q := fun (s : SL) => (∀ r, r ≠ 4 → r ≠ 5 → s r = l r) ∧ ∀ b h, b < B → h < wd * 64 → (pg_g s 4 wd b h = true ↔ h < H ∧ pu_lv ((qs b).map (pv_S x9)) (pg_E fw b) (pu_I h)) ∧ (pg_g s 5 wd b h = true ↔ h < H ∧ pg_gv ((qs b).map (pv_S x9)) (pu_I h)))
    (fun k i s hi hI => by
      obtain ⟨s', a1, a2, a3, a4⟩ := pg_noteBlock hw0 hw2 hH hH2 hfl hi h4 h5 hn4 hn5 s
      refine ⟨s', ?_, fun r r4 r5 => by rw [a2 r r4 r5, hI.1 r r4 r5], fun b h hb hh => ?_⟩
      · show (if (fw 0 0) ≤ pu_I i then some s else ((fX2_noteBlock (o4.2.2) (o4.1) s fw (pu_I i) n2 x9).bind fun (o_35 : SL) => ((fX2_reckon_L35 fw n2 x9 o4 k) (pu_I i + 1) o_35))) = _
        rw [hB0, if_neg (by rw [pu_le (by omega) (by omega)]; omega), ho.1, ho.2, a1, Option.bind_some, pu_su]
      · by_cases e : b = i
        · subst e
          exact a4 h hh
        · obtain ⟨q1, q2⟩ := a3 b h e hh
          rw [q1, q2]
          exact hI.2 b h (by omega) hh)
    (fun k s hI => ⟨s, by
      show (if (fw 0 0) ≤ pu_I B then some s else _) = _
      rw [hB0, if_pos (Int32.le_refl _)], hI⟩)
    B 0 NF l (by omega) (by have := pv_NF; omega) ⟨fun _ _ _ => rfl, fun b h hb => by omega⟩
theorem pg_reckon (hfl : pg_fl B N V fw x9 n2 qs) (hgs : pg_gs B H V fw x9 qs) (hHV : H ≤ V) (hwd : wd = (H + 63) / 64) (hwd2 : wd ≤ 20) (hV2 : V ≤ 7110) (hVw : V * wd ≤ 135100) (hc : pg_cap n) (hlok : pu_lok (pg_F fw x9 qs) (fun b => b < B) W) (hWH : ∀ b v, b < B → W b v → ∃ h, h < H ∧ v = pu_I h) (w : ST) (l : SL) :
    ∃ w' l' n', fX2_reckon n w l fw (pu_I H) (pu_I V) n2 x9 = some (w', l', n') ∧ pg_gr B H V wd fw x9 qs n' w' l' ∧ (∀ b v, b < B → pg_W H wd l' b v → W b v) := by
  have hB0 := hfl.1.1
  have hB := hfl.1.2.2
  have hH : H ≤ wd * 64 := by omega
  have hV9 : V < 1000000 := by omega
  obtain ⟨w3, hw3⟩ : ∃ w3, w3 = upw (upw (upw w 0 0 (pu_I H)) 0 1 (pu_I V)) 0 2 (pu_I wd) := ⟨_, rfl⟩
  have h30 : w3 0 0 = pu_I H := by rw [hw3, pv_upw, if_neg (by decide), pv_upw, if_neg (by decide), pv_upw, if_pos ⟨rfl, rfl⟩]
  have h31 : w3 0 1 = pu_I V := by rw [hw3, pv_upw, if_neg (by decide), pv_upw, if_pos ⟨rfl, rfl⟩]
  have h32 : w3 0 2 = pu_I wd := by rw [hw3, pv_upw, if_pos ⟨rfl, rfl⟩]
  obtain ⟨w4, l4, n4, a1, a2, a3⟩ := pg_makeRoom (n := n) (w := w3) (l := l) hB h32 h31 hwd2 hV2 hVw hc
  have h40 : w4 0 0 = pu_I H := by rw [a2]; exact h30
  have h41 : w4 0 1 = pu_I V := by rw [a2]; exact h31
  have h42 : w4 0 2 = pu_I wd := by rw [a2]; exact h32
  obtain ⟨⟨R4, R5, R6⟩, R7, R11, ⟨R12, R13, _⟩, c4, c5, c6, c7, c10, c11, c12, c13, _⟩ := id a3
  obtain ⟨l5, b1, b2, b3⟩ := pg_35 (o4 := (w4, l4, n4)) h40 h42 hH (by omega) hfl R4 R5 (by omega) (by omega) ⟨rfl, rfl⟩ l4
  obtain ⟨l6, d1, d2, d3, d4, d5⟩ := pg_spreadLife h42 hfl R4 R5 R6 (by omega) (by omega) (by omega) (by omega) l5 b3 hlok
  obtain ⟨g11, e1, e2⟩ := pg_fillL (n := n4 11) (f := l6 11) (v := 0) (Nat.zero_le (V * wd)) (by omega) (by omega)
  obtain ⟨g12, f1, f2⟩ := pg_fillI (n := n4 12) (f := w4 12) (v := -1) (hi := V) (by omega) (by omega)
  obtain ⟨w7, hw7⟩ : ∃ w7, w7 = srw w4 12 g12 := ⟨_, rfl⟩
  obtain ⟨l7, hl7⟩ : ∃ l7, l7 = srl l6 11 g11 := ⟨_, rfl⟩
  have hw7r : ∀ r, r ≠ 12 → w7 r = w4 r := fun r hr => by rw [hw7, pv_srw_n hr]
  have hl7r : ∀ r, r ≠ 11 → l7 r = l6 r := fun r hr => by rw [hl7, pv_srl_n hr]
  have hz : ∀ v h, v < V → h < wd * 64 → pg_g l7 11 wd v h = false := fun v h hv hh => by
    have hlt : v * wd + h / 64 < V * wd := pg_ixlt hv (by omega)
    unfold pg_g
    rw [hl7, pv_srl_s, e2, if_pos ⟨Nat.zero_le _, hlt⟩, pv_bt_0]
  have hm : ∀ v, v < V → w7 12 v = -1 := fun v hv => by rw [hw7, pv_srw_s, f2, if_pos hv]
  have hI0 : pg_ia B H V wd fw x9 qs l6 0 w7 l7 := ⟨⟨fun v h hv hh h1 => (by rw [hz v h hv hh] at h1; cases h1), fun v hv => Or.inl (hm v hv)⟩, fun v hv h1 => absurd (hm v hv) h1, fun b hb => by omega⟩
  have hbit : ∀ c h, c < B → h < wd * 64 → pg_g l6 6 wd c h = true → h < H := fun c h hc hh h1 => (d4 c h hc hh h1).1
  obtain ⟨w8, l8, n8, i1, i2, i3, i4, i5⟩ := pg_96 (by omega) hH hHV hfl hgs hbit B 0 NF w7 l7 n4 (by omega) (by have := pv_NF; omega) (by rw [hw7r 0 (by decide)]; exact h40) (by rw [hw7r 0 (by decide)]; exact h42) a3 (hl7r 6 (by decide)) hI0
  have h80 : w8 0 0 = pu_I H := by rw [i4 0 (by decide), hw7r 0 (by decide)]; exact h40
  have h81 : w8 0 1 = pu_I V := by rw [i4 1 (by decide), hw7r 0 (by decide)]; exact h41
  have h82 : w8 0 2 = pu_I wd := by rw [i4 2 (by decide), hw7r 0 (by decide)]; exact h42
  obtain ⟨⟨S4, S5, S6⟩, S7, S11, ⟨S12, S13, _⟩, s4, s5, s6, s7, s10, s11, s12, s13, _⟩ := id i3
  obtain ⟨⟨j1, j2⟩, j3, j4⟩ := i2
  obtain ⟨l9, k1, k2, k3, k4, k5⟩ := pg_mirror (n := n8) h80 h82 (by omega) hH hHV hV9 S11 (by omega) j1
  obtain ⟨w9, m1, m2, m3⟩ := pg_countDegrees (n := n8) h80 h81 h82 (by omega) (by omega) hH hHV S11 (by omega) S12 S13 (by omega) ⟨k4, j2⟩
  have h96 : l9 6 = l6 6 := by rw [k2 6 (by decide), i5 6 (by decide) (by decide), hl7r 6 (by decide)]
  have hW9 : pg_W H wd l9 = pg_W H wd l6 := pg_W_r h96
  have hWW : ∀ b v, b < B → pg_W H wd l6 b v → W b v := fun b v hb ⟨h, h1, h2, h3⟩ => by
    rw [h2]
    exact (d4 b h hb (by omega) h3).2
  have hmr : w9 12 = w8 12 := m2 12 (by decide)
  have had : ∀ v u, pg_ad w9 l9 H wd v u = pg_ad w8 l9 H wd v u := fun v u => by
    unfold pg_ad
    rw [hmr]
  refine ⟨w9, l9, n8, ?_, ⟨⟨by rw [m2 0 (by decide)]; exact h80, by rw [m2 0 (by decide)]; exact h81, by rw [m2 0 (by decide)]; exact h82⟩, i3, ⟨k4, fun v hv => by rw [hmr]; exact j2 v hv⟩, fun v u hv hu h => ?_, fun v hv => ?_, fun b hb l1 a l2 hq g v hg1 hg2 hg hv hlv hne hco => ?_, ?_⟩, fun b v hb h => by rw [hW9] at h; exact hWW b v hb h⟩
  · unfold fX2_reckon
    simp only [lt9]
    rw [show upw (upw w 0 0 (pu_I H)) 0 1 (pu_I V) 0 0 = pu_I H by rw [pv_upw, if_neg (by decide), pv_upw, if_pos ⟨rfl, rfl⟩], show (63 : Int32) = pu_I 63 from rfl, pv_add, pg_sh6 (by omega), ← hwd, ← hw3, hB0, a1, Option.bind_some]
    unfold fX2_reckon_G32_33
    rw [b1, Option.bind_some, d1, Option.bind_some]
    show ((fJ7_fill_bad5a (n4 11) (l6 11) 0 ((w4 0 1) * (w4 0 2)) 0).bind fun (o_37 : RL) => ((fJ7_fill_fda19 (n4 12) (w4 12) 0 (w4 0 1) (-1)).bind fun (o_38 : RI) => ((fX2_reckon_L96 fw n2 x9 NF 0 (srw w4 12 o_38) (srl l6 11 o_37) n4).bind fun (o96 : ST × SL × (Nat → Nat)) => (fX2_reckon_G118_70 o96)))) = _
    rw [h41, h42, pv_mul, show fJ7_fill_bad5a (n4 11) (l6 11) 0 (pu_I (V * wd)) 0 = some g11 from e1, Option.bind_some, f1, Option.bind_some, ← hw7, ← hl7]
    have i1 : fX2_reckon_L96 fw n2 x9 NF 0 w7 l7 n4 = some (w8, l8, n8) := i1
    rw [i1, Option.bind_some]
    unfold fX2_reckon_G118_70
    rw [k1, Option.bind_some, m1, Option.bind_some]
  · rw [had] at h ⊢
    unfold pg_ad at h ⊢
    by_cases huH : u < H
    · rw [if_pos huH] at h
      by_cases hvH : v < H
      · rw [if_pos hvH]
        exact k5 v u hvH huH h
      · rw [if_neg hvH, if_pos huH]
        exact h
    · rw [if_neg huH] at h
      by_cases hvH : v < H
      · rw [if_pos hvH] at h ⊢
        exact h
      · rw [if_neg hvH] at h ⊢
        rw [if_neg huH]
        rw [decide_eq_true_iff] at h ⊢
        rcases j2 v hv with h9 | ⟨_, u', u1, _, u2, u3⟩
        · rw [h] at h9
          exact absurd h9 (pg_In1 (by omega))
        · rw [h] at u2
          rw [pu_inj (by omega) (by omega) u2]
          exact u3
  · rw [m3 v hv]
    unfold pg_dg
    simp only [had]
  · rw [hW9] at hlv
    have h9 := j4 b hb l1 a l2 hq g v hg1 hg2 hg hv hlv hne hco
    rw [had]
    unfold pg_ad
    obtain ⟨z1, z2⟩ := h9
    by_cases hvH : v < H
    · rw [if_pos hvH]
      exact k3 g v hg (by omega) (z1 hvH)
    · rw [if_neg hvH]
      obtain ⟨z3, z4⟩ := z2 (by omega)
      by_cases hgH : g < H
      · rw [if_pos hgH]
        exact k3 v g hv (by omega) (z3 hgH)
      · rw [if_neg hgH, decide_eq_true_iff]
        exact (z4 (by omega)).1
  · intro b v hb hlv
    rw [hW9] at hlv ⊢
    have hXX : ∀ u, pu_xo (pg_F fw x9 qs) (pg_W H wd l6) b u → pu_xo (pg_F fw x9 qs) W b u := fun u hu => hu.imp id fun ⟨c, c1, c2⟩ => ⟨c, c1, hWW c u ((pg_fl_sc hfl hb c).mp c1).1 c2⟩
    obtain ⟨h, h1, h2⟩ := hWH b v hb (hlok b v hb (pu_lv_mono hXX _ v hlv))
    rw [h2] at hlv ⊢
    have hh : h < wd * 64 := by omega
    refine ⟨h, h1, rfl, ?_⟩
    have hE : pu_lv ((qs b).map (pv_S x9)) (pg_E fw b) (pu_I h) → pg_g l6 6 wd b h = true := fun h9 => d3 b h hb hh ((b3 b h hb hh).1.mpr ⟨h1, h9⟩)
    rcases (pg_lv_x _ _).mp hlv with h9 | ⟨h9 | ⟨c, c1, c2⟩, h8⟩
    · exact hE ((pg_lv_x _ _).mpr (Or.inl h9))
    · exact hE ((pg_lv_x _ _).mpr (Or.inr ⟨h9, h8⟩))
    · obtain ⟨c3, c4⟩ := (pg_fl_sc hfl hb c).mp c1
      obtain ⟨h', q1, q2, q3⟩ := c2
      have e9 := pu_inj (by omega) (by omega) q2
      rw [← e9] at q3
      have hg5 : pg_g l6 5 wd b h = false := by
        cases e : pg_g l6 5 wd b h with
        | false => rfl
        | true =>
          rw [pg_g_r (d2 5 (by decide)), (b3 b h hb hh).2] at e
          exact absurd e.2 h8
      rcases c4 with c4 | c4
      · exact (d5 b hb).1 c c3 c4 h hh q3 hg5
      · exact (d5 b hb).2 c c3 c4 h hh q3 hg5
end RKW
