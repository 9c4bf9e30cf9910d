/-! pure side, the allocator 24: slots -/
section SLO
variable {B N V H c0 : Nat} {aw w9 g fw x9 : ST} {gn n2 n8 : Nat → Nat} {qs : Nat → List Nat} {ct : Nat → Nat} {d : List Nat}
/-- a value that is to be put away -/
def pa_pt (ct : Nat → Nat) (g : ST) (v : Nat) : Prop := ct v ≠ 0 ∧ g 17 v = -1
def pa_px (ct : Nat → Nat) (g : ST) (v : Nat) : Nat := if ct v ≠ 0 ∧ g 17 v = -1 then 1 else 0
/-- some slots are found -/
def pa_si (H c0 : Nat) (w9 g x9 : ST) (ct : Nat → Nat) (d : List Nat) (i : Nat) (s : ST) : Prop :=
  ∃ m, (m ≤ i ∧ m ≤ H ∧ m ≤ pv_sm (pa_px ct g) i) ∧ s 0 10 = pu_I (c0 + m) ∧ (∀ r z, r ≠ 13 → r ≠ 14 → ¬ (r = 0 ∧ z = 10) → s r z = w9 r z) ∧
    (∀ v, v < i → (¬ pa_pt ct g v ∧ s 13 v = -1) ∨ (pa_pt ct g v ∧ ct v = 1 ∧ s 13 v = -2 ∧ ∃ a, a ∈ d ∧ x9 3 a = pu_I v ∧ x9 2 a = 0 ∧ s 14 v = x9 4 a) ∨ (pa_pt ct g v ∧ ∃ q, c0 ≤ q ∧ q < c0 + m ∧ s 13 v = pu_I q)) ∧
    (∀ u v q, u < i → v < i → q < 100000 → s 13 u = pu_I q → s 13 v = pu_I q → u = v)
theorem pa_31 (hV : V < 100000) (hH : H < 2000) (hc0 : c0 < 50000) (hd : ∀ a, a ∈ d → a < N) (hN : N < 100000) (hn2 : N ≤ n2 2) (hn4 : N ≤ n2 4) (h15 : V ≤ gn 15) (h16 : V ≤ gn 16) (h17 : V ≤ gn 17) (h13 : V ≤ n8 13) (h14 : V ≤ n8 14) (haw : aw 0 8 = pu_I V) (hw10 : w9 0 10 = pu_I c0)
    (hct : ∀ v, v < V → (g 15 v = pu_I (ct v) ∧ ct v < 1000000) ∧ (ct v ≠ 0 → ∃ a, a ∈ d ∧ x9 3 a = pu_I v ∧ g 16 v = pu_I a)) (hrg : ∀ v, v < V → g 17 v = -1 ∨ ∃ q, q < 8 ∧ g 17 v = pu_I q) (hpH : ∀ v, v < V → pa_pt ct g v → v < H) :
    ∃ s, fX0_putAway_L31 aw gn g n2 x9 n8 NF 0 w9 = some s ∧ pa_si H c0 w9 g x9 ct d V s := by
  refine pv_for (σ := ST) (G := fun k i s => fX0_putAway_L31 aw gn g n2 x9 n8 k i s) (hi := V) (Inv := fun i s => pa_si H c0 w9 g x9 ct d i s) (Q := fun s => pa_si H c0 w9 g x9 ct d V s)
    (fun k i s hi hI => ?_) (fun k s hI => ⟨s, ?_, hI⟩) V 0 NF w9 (by omega) (by have := pv_NF; omega) ⟨0, ⟨Nat.le_refl 0, Nat.zero_le H, Nat.zero_le _⟩, hw10, fun _ _ _ _ _ => rfl, fun v hv => by omega, fun u v q hu => by omega⟩
  · obtain ⟨m, ⟨m1, m2, m3⟩, I1, I2, I3, I4⟩ := hI
    obtain ⟨⟨q15, q15'⟩, q16⟩ := hct i hi
    have i13 : ixb (pu_I i) (n8 13) = true := (pu_ix (by omega)).mpr (by omega)
    have i14 : ixb (pu_I i) (n8 14) = true := (pu_ix (by omega)).mpr (by omega)
    have i15 : ixb (pu_I i) (gn 15) = true := (pu_ix (by omega)).mpr (by omega)
    have i16 : ixb (pu_I i) (gn 16) = true := (pu_ix (by omega)).mpr (by omega)
    have i17 : ixb (pu_I i) (gn 17) = true := (pu_ix (by omega)).mpr (by omega)
    have hle : pu_I (ct i) ≤ 0 ↔ ct i = 0 := by
      have := pu_le (a := ct i) (b := 0) (by omega) (by decide)
      exact this.trans ⟨fun h => by omega, fun h => by omega⟩
    have hgo : fX0_putAway_L31 aw gn g n2 x9 n8 (k + 1) (pu_I i) s = (if ct i = 0 then fX0_putAway_L31 aw gn g n2 x9 n8 k (pu_I (i + 1)) (upw s 13 i (-1)) else (if 0 ≤ g 17 i then fX0_putAway_L31 aw gn g n2 x9 n8 k (pu_I (i + 1)) (upw s 13 i (-1)) else ((fX0_findSlot n8 (upw s 13 i (-1)) (pu_I i) gn g n2 x9).bind fun o_20 => fX0_putAway_L31 aw gn g n2 x9 n8 k (pu_I (i + 1)) o_20))) := by
      show (if (aw 0 8) ≤ pu_I i then some s else (if ixb (pu_I i) (n8 13) = true then (lt9 (upw s 13 (nn (pu_I i)) (-1)) fun (w15 : ST) => _) else none)) = _
      rw [haw, if_neg (by rw [pu_le (by omega) (by omega)]; omega), if_pos i13, pu_nn (show i < 2147483648 by omega)]
      unfold lt9 fX0_putAway_J72
      dsimp only
      rw [if_pos i15, q15, if_pos i17, pu_su]
      by_cases e : ct i = 0
      · rw [if_pos (hle.mpr e), if_pos e]
      · rw [if_neg (fun h => e (hle.mp h)), if_neg e]
    have hn : ¬ pa_pt ct g i → fX0_putAway_L31 aw gn g n2 x9 n8 (k + 1) (pu_I i) s = fX0_putAway_L31 aw gn g n2 x9 n8 k (pu_I (i + 1)) (upw s 13 i (-1)) → ∃ s', fX0_putAway_L31 aw gn g n2 x9 n8 (k + 1) (pu_I i) s = fX0_putAway_L31 aw gn g n2 x9 n8 k (pu_I (i + 1)) s' ∧ pa_si H c0 w9 g x9 ct d (i + 1) s' := fun hp hg => by
      refine ⟨_, hg, m, ⟨by omega, m2, Nat.le_trans m3 (Nat.le_add_right _ _)⟩, ?_, fun r z h1 h2 h3 => ?_, fun v hv => ?_, fun u v q hu hv hq h1 h2 => ?_⟩
      · rw [pv_upw_n (by decide)]; exact I1
      · rw [pv_upw_n h1]; exact I2 r z h1 h2 h3
      · by_cases e : v = i
        · rw [e]
          exact Or.inl ⟨hp, by rw [pv_upw, if_pos ⟨rfl, rfl⟩]⟩
        · rw [pv_upw, if_neg (fun q => e q.2), pv_upw_n (by decide)]
          exact I3 v (by omega)
      · have hne : ∀ x, upw s 13 i (-1) 13 x = pu_I q → x ≠ i := fun x hx e => by
          rw [e, pv_upw, if_pos ⟨rfl, rfl⟩] at hx
          exact pg_In1 (by omega) hx.symm
        have n1 := hne u h1
        have n2 := hne v h2
        rw [pv_upw, if_neg (fun q => n1 q.2)] at h1
        rw [pv_upw, if_neg (fun q => n2 q.2)] at h2
        exact I4 u v q (by omega) (by omega) hq h1 h2
    by_cases e : ct i = 0
    · exact hn (fun h => h.1 e) (by rw [hgo, if_pos e])
    · rw [if_neg e] at hgo
      rcases hrg i hi with e17 | ⟨q, hq, e17⟩
      · rw [e17, if_neg (by decide)] at hgo
        have hp : pa_pt ct g i := ⟨e, e17⟩
        have hiH := hpH i hi hp
        obtain ⟨a, a1, a2, a3⟩ := q16 e
        have haN := hd a a1
        have ia2 : ixb (pu_I a) (n2 2) = true := (pu_ix (by omega)).mpr (by omega)
        have ia4 : ixb (pu_I a) (n2 4) = true := (pu_ix (by omega)).mpr (by omega)
        have hone : pu_I (ct i) = 1 ↔ ct i = 1 := ⟨fun h => pu_inj (b := 1) (by omega) (by decide) h, fun h => by rw [h]; rfl⟩
        have hfs : fX0_findSlot n8 (upw s 13 i (-1)) (pu_I i) gn g n2 x9 = (if ct i = 1 ∧ x9 2 a = 0 then some (upw (upw (upw s 13 i (-1)) 13 i (-2)) 14 i (x9 4 a)) else some (upw (upw (upw s 13 i (-1)) 13 i (pu_I (c0 + m))) 0 10 (pu_I (c0 + m + 1)))) := by
          have hJ : fX0_findSlot_J67 n8 (upw s 13 i (-1)) (pu_I i) = some (upw (upw (upw s 13 i (-1)) 13 i (pu_I (c0 + m))) 0 10 (pu_I (c0 + m + 1))) := by
            unfold fX0_findSlot_J67 fX0_findSlot_J87 lt9
            dsimp only
            rw [if_pos i13, pu_nn (show i < 2147483648 by omega), pv_upw_n (show (0 : Nat) ≠ 13 by decide), pv_upw_n (show (0 : Nat) ≠ 13 by decide), I1, pv_upw_n (show (0 : Nat) ≠ 13 by decide), I1, pu_su]
          unfold fX0_findSlot
          rw [if_pos i16, if_pos i15, pu_nn (show i < 2147483648 by omega), q15, a3, pu_nn (show a < 2147483648 by omega), if_pos ia2, hJ]
          unfold fX0_findSlot_J87 lt9
          dsimp only
          rw [if_pos i13, if_pos ia4, if_pos i14]
          by_cases h1 : ct i = 1
          · rw [if_pos (hone.mpr h1)]
            by_cases h2 : x9 2 a = 0
            · rw [if_pos h2, if_pos ⟨h1, h2⟩]
            · rw [if_neg h2, if_neg (fun h => h2 h.2)]
          · rw [if_neg (fun h => h1 (hone.mp h)), if_neg (fun h => h1 h.1)]
        rw [hfs] at hgo
        have mlt : m < H := by omega
        by_cases hk : ct i = 1 ∧ x9 2 a = 0
        · rw [if_pos hk, Option.bind_some] at hgo
          obtain ⟨s', hs'⟩ : ∃ s', s' = upw (upw (upw s 13 i (-1)) 13 i (-2)) 14 i (x9 4 a) := ⟨_, rfl⟩
          rw [← hs'] at hgo
          have s13 : ∀ z, s' 13 z = if z = i then -2 else s 13 z := fun z => by
            rw [hs', pv_upw_n (show (13 : Nat) ≠ 14 by decide), pv_upw, pv_upw]
            by_cases e : z = i
            · rw [if_pos ⟨rfl, e⟩, if_pos e]
            · rw [if_neg (fun h => e h.2), if_neg (fun h => e h.2), if_neg e]
          have s14 : ∀ z, s' 14 z = if z = i then x9 4 a else s 14 z := fun z => by
            rw [hs', pv_upw, pv_upw_n (show (14 : Nat) ≠ 13 by decide), pv_upw_n (show (14 : Nat) ≠ 13 by decide)]
            exact pg_ifc ⟨fun h => h.2, fun h => ⟨rfl, h⟩⟩
          refine ⟨s', hgo, m, ⟨by omega, m2, Nat.le_trans m3 (Nat.le_add_right _ _)⟩, ?_, fun r z h1 h2 h3 => ?_, fun v hv => ?_, fun u v q hu hv hq h1 h2 => ?_⟩
          · rw [hs', pv_upw_n (by decide), pv_upw_n (by decide), pv_upw_n (by decide)]; exact I1
          · rw [hs', pv_upw_n h2, pv_upw_n h1, pv_upw_n h1]; exact I2 r z h1 h2 h3
          · rw [s13, s14]
            by_cases e : v = i
            · rw [if_pos e, if_pos e, e]
              exact Or.inr (Or.inl ⟨hp, hk.1, rfl, a, a1, a2, hk.2, rfl⟩)
            · rw [if_neg e, if_neg e]
              exact I3 v (by omega)
          · have hne : ∀ x, s' 13 x = pu_I q → x ≠ i := fun x hx e => by
              rw [s13, if_pos e] at hx
              have : ¬ pu_I q < 0 := pu_ge (by omega)
              rw [← hx] at this
              exact this (by decide)
            have n1 := hne u h1
            have n2 := hne v h2
            rw [s13, if_neg n1] at h1
            rw [s13, if_neg n2] at h2
            exact I4 u v q (by omega) (by omega) hq h1 h2
        · rw [if_neg hk, Option.bind_some] at hgo
          obtain ⟨s', hs'⟩ : ∃ s', s' = upw (upw (upw s 13 i (-1)) 13 i (pu_I (c0 + m))) 0 10 (pu_I (c0 + m + 1)) := ⟨_, rfl⟩
          rw [← hs'] at hgo
          have s13 : ∀ z, s' 13 z = if z = i then pu_I (c0 + m) else s 13 z := fun z => by
            rw [hs', pv_upw_n (show (13 : Nat) ≠ 0 by decide), pv_upw, pv_upw]
            by_cases e : z = i
            · rw [if_pos ⟨rfl, e⟩, if_pos e]
            · rw [if_neg (fun h => e h.2), if_neg (fun h => e h.2), if_neg e]
          have s14 : ∀ z, s' 14 z = s 14 z := fun z => by
            rw [hs', pv_upw_n (show (14 : Nat) ≠ 0 by decide), pv_upw_n (show (14 : Nat) ≠ 13 by decide), pv_upw_n (show (14 : Nat) ≠ 13 by decide)]
          refine ⟨s', hgo, m + 1, ⟨by omega, by omega, (show m + 1 ≤ pv_sm (pa_px ct g) i + pa_px ct g i by rw [show pa_px ct g i = 1 from if_pos hp]; omega)⟩, ?_, fun r z h1 h2 h3 => ?_, fun v hv => ?_, fun u v q hu hv hq h1 h2 => ?_⟩
          · rw [hs', pv_upw, if_pos ⟨rfl, rfl⟩]; rfl
          · rw [hs', pv_upw, if_neg (fun q => h3 q), pv_upw_n h1, pv_upw_n h1]; exact I2 r z h1 h2 h3
          · rw [s13, s14]
            by_cases e : v = i
            · rw [if_pos e, e]
              exact Or.inr (Or.inr ⟨hp, c0 + m, by omega, by omega, rfl⟩)
            · rw [if_neg e]
              rcases I3 v (by omega) with h | h | ⟨h1, q, h2, h3, h4⟩
              · exact Or.inl h
              · exact Or.inr (Or.inl h)
              · exact Or.inr (Or.inr ⟨h1, q, h2, by omega, h4⟩)
          · have hold : ∀ x, x < i + 1 → x ≠ i → s 13 x = pu_I q → q ≠ c0 + m := fun x hx hne h9 => by
              rcases I3 x (by omega) with ⟨_, h⟩ | ⟨_, _, h, _⟩ | ⟨_, q2, g1, g2, g3⟩
              · rw [h9] at h; exact absurd h (pg_In1 (by omega))
              · have : ¬ pu_I q < 0 := pu_ge (by omega)
                rw [← h9, h] at this
                exact absurd (by decide) this
              · rw [h9] at g3
                have := pu_inj (by omega) (by omega) g3
                omega
            rw [s13] at h1 h2
            by_cases eu : u = i
            · rw [if_pos eu] at h1
              have hq2 := pu_inj (by omega) (by omega) h1
              by_cases ev : v = i
              · rw [eu, ev]
              · rw [if_neg ev] at h2
                exact absurd hq2.symm (hold v hv ev h2)
            · rw [if_neg eu] at h1
              by_cases ev : v = i
              · rw [if_pos ev] at h2
                have hq2 := pu_inj (by omega) (by omega) h2
                exact absurd hq2.symm (hold u hu eu h1)
              · rw [if_neg ev] at h2
                exact I4 u v q (by omega) (by omega) hq h1 h2
      · refine hn (fun h => pg_In1 (show q < 2147483648 by omega) (by rw [← e17]; exact h.2)) ?_
        rw [hgo, e17, if_pos (show (0 : Int32) ≤ pu_I q from (pu_le (a := 0) (show 0 < 2147483648 by decide) (by omega)).mpr (Nat.zero_le q))]
  · show (if (aw 0 8) ≤ pu_I V then some s else _) = _
    rw [haw, if_pos (Int32.le_refl _)]
end SLO
