/-! pure side, the maker 11: variables of all blocks; borders -/
section NW2
variable {P w fw : ST} {B : Nat} {fo ot : Nat → Nat}
theorem pv_noteVariables (hos : pt_os w B fo ot) (hB : B ≤ 60) (hw0 : fw 0 0 = pu_I B) (hv : ∀ b i, b < B → fo b ≤ i → i < ot b → (P 9 i = 30 ∨ P 9 i = 31 ∨ P 9 i = 32 ∨ P 9 i = 21) → ∃ u, u < 320 ∧ P 10 i = pu_I u) (l : SL) :
    ∃ l', fX4_noteVariables w l P fw = some l' ∧ (∀ r, r ≠ 16 → r ≠ 17 → l' r = l r) ∧ (∀ v, v < 320 → ∀ x, x < 64 → (pv_bt (l' 17 v) x = true ↔ x < B ∧ pt_asg P (fo x) (ot x) v) ∧ (pv_bt (l' 16 v) x = true ↔ x < B ∧ pt_use P (fo x) (ot x) v)) := by
  obtain ⟨f1, a1, a2⟩ := pv_fillL (n := 320) (f := l 16) (v := 0) (by decide)
  obtain ⟨f2, b1, b2⟩ := pv_fillL (n := 320) (f := srl l 16 f1 17) (v := 0) (by decide)
  obtain ⟨t, e1, t1, t2⟩ := pv_for (G := fun k b (t : SL) => fX4_noteVariables_L19 w P fw k b t) (hi := B)
    (Inv := fun b t => (∀ r, r ≠ 16 → r ≠ 17 → t r = l r) ∧ (∀ v, v < 320 → ∀ x, x < 64 → (pv_bt (t 17 v) x = true ↔ x < b ∧ pt_asg P (fo x) (ot x) v) ∧ (pv_bt (t 16 v) x = true ↔ x < b ∧ pt_use P (fo x) (ot x) v)))
    (Q := fun t => (∀ r, r ≠ 16 → r ≠ 17 → t r = l r) ∧ (∀ v, v < 320 → ∀ x, x < 64 → (pv_bt (t 17 v) x = true ↔ x < B ∧ pt_asg P (fo x) (ot x) v) ∧ (pv_bt (t 16 v) x = true ↔ x < B ∧ pt_use P (fo x) (ot x) v)))
    (by
      rintro k b t hb ⟨i1, i2⟩
      have h0 : pt_nv P fo ot b (fo b) t := by
        intro v hv9 x hx
        have h9 := i2 v hv9 x hx
        rw [h9.1, h9.2]
        refine ⟨⟨fun h => Or.inl h, fun h => h.resolve_right ?_⟩, ⟨fun h => Or.inl h, fun h => h.resolve_right ?_⟩⟩
        · rintro ⟨_, j, j1, j2, _⟩
          omega
        · rintro ⟨_, j, j1, j2, _⟩
          omega
      obtain ⟨l', q1, q2, q3⟩ := pv_nv36 hos hB hv hb h0
      refine ⟨l', ?_, fun r r16 r17 => by rw [q2 r r16 r17, i1 r r16 r17], fun v hv9 x hx => ?_⟩
      · show (if (fw 0 0) ≤ pu_I b then some t else ((fX4_opsFrom w (pu_I b)).bind fun (o_4 : Int32) => ((fX4_noteVariables_L36 w P (pu_I b) NF o_4 t).bind fun (o36 : SL) => ((fX4_noteVariables_L19 w P fw k) (pu_I b + 1) o36)))) = _
        rw [hw0, if_neg (by rw [pu_le (by omega) (by omega)]; omega), (hos b hb).1, Option.bind_some, q1, Option.bind_some, pu_su]
      · have h9 := q3 v hv9 x hx
        rw [h9.1, h9.2]
        refine ⟨⟨fun h => ?_, fun h => ?_⟩, ⟨fun h => ?_, fun h => ?_⟩⟩
        · rcases h with h | ⟨rfl, h⟩
          · exact ⟨by omega, h.2⟩
          · exact ⟨by omega, h⟩
        · by_cases e : x = b
          · subst e; exact Or.inr ⟨rfl, h.2⟩
          · exact Or.inl ⟨by omega, h.2⟩
        · rcases h with h | ⟨rfl, h⟩
          · exact ⟨by omega, h.2⟩
          · exact ⟨by omega, h⟩
        · by_cases e : x = b
          · subst e; exact Or.inr ⟨rfl, h.2⟩
          · exact Or.inl ⟨by omega, h.2⟩)
    (by
      rintro k t ⟨i1, i2⟩
      refine ⟨t, ?_, i1, i2⟩
      show (if (fw 0 0) ≤ pu_I B then some t else _) = _
      rw [hw0, if_pos (Int32.le_refl _)]) B 0 NF (srl (srl l 16 f1) 17 f2) (by omega) (by have := pv_NF; omega) ⟨fun r r16 r17 => by rw [pv_srl_n r17, pv_srl_n r16], fun v hv9 x hx => by
      rw [pv_srl_s, b2 v hv9, pv_srl_n (by decide), pv_srl_s, a2 v hv9, pv_bt_0]
      exact ⟨⟨fun h => (by cases h), fun h => absurd h.1 (Nat.not_lt_zero _)⟩, ⟨fun h => (by cases h), fun h => absurd h.1 (Nat.not_lt_zero _)⟩⟩⟩
  have e1 : fX4_noteVariables_L19 w P fw NF 0 (srl (srl l 16 f1) 17 f2) = some t := e1
  refine ⟨t, ?_, t1, t2⟩
  unfold fX4_noteVariables
  rw [a1, Option.bind_some, b1, Option.bind_some, e1]
  rfl
end NW2
section BD
variable {w : ST} {pl : SL} {B : Nat} {wb : Nat → Nat}
def pt_bc (pl : SL) (b p d : Nat) : Prop := pv_bt (pl 16 p) d = true ∧ (d = b ∨ ¬ pv_bt (pl 16 b) d = true)
theorem pv_brd45 (hB : B ≤ 60) (hw0 : w 0 0 = pu_I B) {b p : Nat} (hb : b < B) (hp : p < B) (l : SL) :
    ∃ l', fX4_findBorders_L45 w pl (pu_I b) (pu_I p) NF 0 l = some l' ∧ (∀ r, r ≠ 18 → l' r = l r) ∧ (∀ d, d < B → ∀ x, x < 64 → (pv_bt (l' 18 d) x = true ↔ pv_bt (l 18 d) x = true ∨ (x = b ∧ pt_bc pl b p d))) := by
  have hrun := pv_for (G := fun k d (t : SL) => fX4_findBorders_L45 w pl (pu_I b) (pu_I p) k d t) (hi := B)
    (Inv := fun i t => (∀ r, r ≠ 18 → t r = l r) ∧ (∀ d, d < B → ∀ x, x < 64 → (pv_bt (t 18 d) x = true ↔ pv_bt (l 18 d) x = true ∨ (d < i ∧ x = b ∧ pt_bc pl b p d))))
    (Q := fun t => (∀ r, r ≠ 18 → t r = l r) ∧ (∀ d, d < B → ∀ x, x < 64 → (pv_bt (t 18 d) x = true ↔ pv_bt (l 18 d) x = true ∨ (x = b ∧ pt_bc pl b p d))))
    (by
      rintro k i t hi ⟨i1, i2⟩
      have hix : ixb (pu_I i) 60 = true := (pu_ix (by omega)).mpr (by omega)
      have hin : nn (pu_I i) = i := pu_nn (by omega)
      have hbx : ixb (pu_I b) 60 = true := (pu_ix (by omega)).mpr (by omega)
      have hform : ∃ c9 : Bool, (c9 = true ↔ pt_bc pl b p i) ∧ fX4_findBorders_L45 w pl (pu_I b) (pu_I p) (k + 1) (pu_I i) t = (if c9 = true then fX4_findBorders_L45 w pl (pu_I b) (pu_I p) k (pu_I (i + 1)) (upl t 18 i (t 18 i ||| ((1 : Int64) <<< ((pu_I b).toInt64 &&& 63)))) else fX4_findBorders_L45 w pl (pu_I b) (pu_I p) k (pu_I (i + 1)) t) := by
        have h84 : fX4_findBorders_J84 (fX4_findBorders_L45 w pl (pu_I b) (pu_I p) k) (pu_I b) (pu_I i) t = fX4_findBorders_L45 w pl (pu_I b) (pu_I p) k (pu_I (i + 1)) (upl t 18 i (t 18 i ||| ((1 : Int64) <<< ((pu_I b).toInt64 &&& 63)))) := by
          unfold fX4_findBorders_J84 fX4_findBorders_J97
          rw [if_pos hix, if_pos hix, hin, pu_su]
          rfl
        have h97 : fX4_findBorders_J97 (fX4_findBorders_L45 w pl (pu_I b) (pu_I p) k) (pu_I i) t = fX4_findBorders_L45 w pl (pu_I b) (pu_I p) k (pu_I (i + 1)) t := by
          unfold fX4_findBorders_J97
          rw [pu_su]
        have hst : fX4_findBorders_L45 w pl (pu_I b) (pu_I p) (k + 1) (pu_I i) t = (if pv_b (pv_bt (pl 16 p) i) = 0 then fX4_findBorders_L45 w pl (pu_I b) (pu_I p) k (pu_I (i + 1)) t else (if pu_I i = pu_I b then fX4_findBorders_L45 w pl (pu_I b) (pu_I p) k (pu_I (i + 1)) (upl t 18 i (t 18 i ||| ((1 : Int64) <<< ((pu_I b).toInt64 &&& 63)))) else (if pv_b (pv_bt (pl 16 b) i) = 0 then fX4_findBorders_L45 w pl (pu_I b) (pu_I p) k (pu_I (i + 1)) (upl t 18 i (t 18 i ||| ((1 : Int64) <<< ((pu_I b).toInt64 &&& 63)))) else fX4_findBorders_L45 w pl (pu_I b) (pu_I p) k (pu_I (i + 1)) t))) := by
          show (if (w 0 0) ≤ pu_I i then some t else ((fX11_holds (pl 16 (nn (pu_I p))) (pu_I i)).bind fun (o_10 : Int32) => (if o_10 = 0 then (fX4_findBorders_J97 (fX4_findBorders_L45 w pl (pu_I b) (pu_I p) k) (pu_I i) t) else (if pu_I i = pu_I b then (fX4_findBorders_J84 (fX4_findBorders_L45 w pl (pu_I b) (pu_I p) k) (pu_I b) (pu_I i) t) else (if ixb (pu_I b) 60 = true then ((fX11_holds (pl 16 (nn (pu_I b))) (pu_I i)).bind fun (o_18 : Int32) => (if o_18 = 0 then (fX4_findBorders_J84 (fX4_findBorders_L45 w pl (pu_I b) (pu_I p) k) (pu_I b) (pu_I i) t) else (fX4_findBorders_J97 (fX4_findBorders_L45 w pl (pu_I b) (pu_I p) k) (pu_I i) t))) else none))))) = _
          rw [hw0, if_neg (by rw [pu_le (by omega) (by omega)]; omega), pu_nn (show p < 2147483648 by omega), pu_nn (show b < 2147483648 by omega), pv_holds (by omega), Option.bind_some, if_pos hbx, pv_holds (by omega), Option.bind_some, h84, h97]
        rw [hst]
        cases h1 : pv_bt (pl 16 p) i with
        | false =>
          refine ⟨false, ⟨fun h => (by cases h), fun h => ?_⟩, ?_⟩
          · unfold pt_bc at h
            rw [h1] at h
            exact h.1
          · rw [if_pos (show pv_b false = 0 by decide), if_neg (by decide)]
        | true =>
          rw [if_neg (show ¬ pv_b true = 0 by decide)]
          by_cases e : i = b
          · refine ⟨true, ⟨fun _ => ⟨h1, Or.inl e⟩, fun _ => rfl⟩, ?_⟩
            rw [if_pos (by rw [e]), if_pos rfl]
          · rw [if_neg fun h => e (pu_inj (by omega) (by omega) h)]
            cases h2 : pv_bt (pl 16 b) i with
            | true =>
              refine ⟨false, ⟨fun h => (by cases h), fun h => ?_⟩, ?_⟩
              · exact absurd h2 (h.2.resolve_left e)
              · rw [if_neg (show ¬ pv_b true = 0 by decide), if_neg (by decide)]
            | false =>
              refine ⟨true, ⟨fun _ => ⟨h1, Or.inr (by rw [h2]; decide)⟩, fun _ => rfl⟩, ?_⟩
              rw [if_pos (show pv_b false = 0 by decide), if_pos rfl]
      obtain ⟨c9, hc9, hform⟩ := hform
      by_cases hc : c9 = true
      · rw [if_pos hc] at hform
        refine ⟨_, hform, fun r hr => by rw [pv_upl_n hr, i1 r hr], fun d hd x hx => ?_⟩
        rw [pv_upl]
        by_cases e : d = i
        · rw [if_pos ⟨rfl, e⟩, ← e, pv_orb (by omega), i2 d hd x hx]
          refine ⟨fun h => ?_, fun h => ?_⟩
          · rcases h with (h | h) | h
            · exact Or.inl h
            · exact Or.inr ⟨by omega, h.2⟩
            · exact Or.inr ⟨by omega, h, by rw [e]; exact hc9.mp hc⟩
          · rcases h with h | h
            · exact Or.inl (Or.inl h)
            · exact Or.inr h.2.1
        · rw [if_neg fun h => e h.2, i2 d hd x hx]
          exact ⟨fun h => h.imp id fun h => ⟨by omega, h.2⟩, fun h => h.imp id fun h => ⟨by omega, h.2⟩⟩
      · rw [if_neg hc] at hform
        refine ⟨t, hform, i1, fun d hd x hx => ?_⟩
        rw [i2 d hd x hx]
        refine ⟨fun h => h.imp id fun h => ⟨by omega, h.2⟩, fun h => h.imp id fun h => ⟨?_, h.2⟩⟩
        by_cases e : d = i
        · rw [e] at h
          exact absurd (hc9.mpr h.2.2) hc
        · omega)
    (by
      rintro k t ⟨i1, i2⟩
      refine ⟨t, ?_, i1, fun d hd x hx => ?_⟩
      · show (if (w 0 0) ≤ pu_I B then some t else _) = _
        rw [hw0, if_pos (Int32.le_refl _)]
      · rw [i2 d hd x hx]
        exact ⟨fun h => h.imp id fun h => h.2, fun h => h.imp id fun h => ⟨hd, h⟩⟩) B 0 NF l (by omega) (by have := pv_NF; omega) ⟨fun r _ => rfl, fun d hd x hx => ⟨fun h => Or.inl h, fun h => h.resolve_right fun h => absurd h.1 (Nat.not_lt_zero _)⟩⟩
  obtain ⟨t, e1, t1, t2⟩ := hrun
  exact ⟨t, e1, t1, t2⟩
theorem pv_findBorders (hB : B ≤ 60) (hw0 : w 0 0 = pu_I B) (hw : pv_wys B w wb) (l : SL) :
    ∃ l', fX4_findBorders l w pl = some l' ∧ (∀ r, r ≠ 18 → l' r = l r) ∧ (∀ d, d < B → ∀ x, x < 64 → (pv_bt (l' 18 d) x = true ↔ x < B ∧ ∃ p, p < B ∧ pv_eg w p x ∧ pt_bc pl x p d)) := by
  obtain ⟨f1, a1, a2⟩ := pv_fillL (n := 60) (f := l 18) (v := 0) (by decide)
  have h20 : ∀ b, b < B → ∀ t : SL, ∃ t', fX4_findBorders_L20 w pl (pu_I b) NF 0 t = some t' ∧ (∀ r, r ≠ 18 → t' r = t r) ∧ (∀ d, d < B → ∀ x, x < 64 → (pv_bt (t' 18 d) x = true ↔ pv_bt (t 18 d) x = true ∨ (x = b ∧ ∃ p, p < B ∧ pv_eg w p b ∧ pt_bc pl b p d))) := by
    intro b hb t
    have hmo := hw.2.1 b hb
    have h120 := hw.2.2.1 (b + 1) (by omega)
    obtain ⟨t', e1, t1, t2⟩ := pv_for (G := fun k j (z : SL) => fX4_findBorders_L20 w pl (pu_I b) k j z) (hi := wb (b + 1) - wb b)
      (Inv := fun i z => (∀ r, r ≠ 18 → z r = t r) ∧ (∀ d, d < B → ∀ x, x < 64 → (pv_bt (z 18 d) x = true ↔ pv_bt (t 18 d) x = true ∨ (x = b ∧ ∃ j p, j < i ∧ p < B ∧ w 15 (wb b + j) = pu_I p ∧ pt_bc pl b p d))))
      (Q := fun z => (∀ r, r ≠ 18 → z r = t r) ∧ (∀ d, d < B → ∀ x, x < 64 → (pv_bt (z 18 d) x = true ↔ pv_bt (t 18 d) x = true ∨ (x = b ∧ ∃ p, p < B ∧ pv_eg w p b ∧ pt_bc pl b p d))))
      (by
        rintro k j z hj ⟨i1, i2⟩
        obtain ⟨p, p1, p2, p3⟩ := hw.2.2.2.1 b (wb b + j) hb (by omega) (by omega)
        obtain ⟨z', q1, q2, q3⟩ := pv_brd45 (pl := pl) hB hw0 hb p1 z
        refine ⟨z', ?_, fun r hr => by rw [q2 r hr, i1 r hr], fun d hd x hx => ?_⟩
        · show ((fX1_waysTo w (pu_I b)).bind fun (o_3 : Int32) => (if o_3 ≤ pu_I j then some z else ((fX1_wayFrom w (pu_I b) (pu_I j)).bind fun (o_6 : Int32) => (if ixb o_6 60 = true then ((fX4_findBorders_L45 w pl (pu_I b) o_6 NF 0 z).bind fun (o45 : SL) => ((fX4_findBorders_L20 w pl (pu_I b) k) (pu_I j + 1) o45)) else none)))) = _
          rw [pv_waysTo hB hw hb, Option.bind_some, if_neg (by rw [pu_le (by omega) (by omega)]; omega), pv_wayFrom hB hw hb (by omega), Option.bind_some, p2, if_pos ((pu_ix (by omega)).mpr (by omega)), q1, Option.bind_some, pu_su]
        · rw [q3 d hd x hx, i2 d hd x hx]
          refine ⟨fun h => ?_, fun h => ?_⟩
          · rcases h with (h | ⟨h1, j', p', h2, h3⟩) | ⟨h1, h2⟩
            · exact Or.inl h
            · exact Or.inr ⟨h1, j', p', by omega, h3⟩
            · exact Or.inr ⟨h1, j, p, by omega, p1, p2, h2⟩
          · rcases h with h | ⟨h1, j', p', h2, h3, h4, h5⟩
            · exact Or.inl (Or.inl h)
            · by_cases e : j' = j
              · rw [e] at h4
                have hpp := pu_inj (by omega) (by omega) (h4.symm.trans p2)
                rw [hpp] at h5
                exact Or.inr ⟨h1, h5⟩
              · exact Or.inl (Or.inr ⟨h1, j', p', by omega, h3, h4, h5⟩))
      (by
        rintro k z ⟨i1, i2⟩
        refine ⟨z, ?_, i1, fun d hd x hx => ?_⟩
        · show ((fX1_waysTo w (pu_I b)).bind fun (o_3 : Int32) => (if o_3 ≤ pu_I (wb (b + 1) - wb b) then some z else _)) = _
          rw [pv_waysTo hB hw hb, Option.bind_some, if_pos (Int32.le_refl _)]
        · rw [i2 d hd x hx]
          refine ⟨fun h => ?_, fun h => ?_⟩
          · rcases h with h | ⟨h1, j', p', h2, h3, h4, h5⟩
            · exact Or.inl h
            · obtain ⟨p9, g1, g2, g3⟩ := hw.2.2.2.1 b (wb b + j') hb (by omega) (by omega)
              have hpp := pu_inj (by omega) (by omega) (g2.symm.trans h4)
              rw [hpp] at g3
              exact Or.inr ⟨h1, p', h3, g3, h5⟩
          · rcases h with h | ⟨h1, p', h3, h4, h5⟩
            · exact Or.inl h
            · obtain ⟨j, j1, j2, j3⟩ := hw.2.2.2.2.1 b p' hb h3 h4
              exact Or.inr ⟨h1, j - wb b, p', by omega, h3, by rw [show wb b + (j - wb b) = j by omega]; exact j3, h5⟩) (wb (b + 1) - wb b) 0 NF t (by omega) (by have := pv_NF; omega) ⟨fun r _ => rfl, fun d hd x hx => ⟨fun h => Or.inl h, fun h => h.resolve_right fun ⟨_, j, p, h, _⟩ => absurd h (Nat.not_lt_zero _)⟩⟩
    exact ⟨t', e1, t1, t2⟩
  obtain ⟨t, e1, t1, t2⟩ := pv_for (G := fun k b (t : SL) => fX4_findBorders_L10 w pl k b t) (hi := B)
    (Inv := fun b t => (∀ r, r ≠ 18 → t r = l r) ∧ (∀ d, d < B → ∀ x, x < 64 → (pv_bt (t 18 d) x = true ↔ x < b ∧ ∃ p, p < B ∧ pv_eg w p x ∧ pt_bc pl x p d)))
    (Q := fun t => (∀ r, r ≠ 18 → t r = l r) ∧ (∀ d, d < B → ∀ x, x < 64 → (pv_bt (t 18 d) x = true ↔ x < B ∧ ∃ p, p < B ∧ pv_eg w p x ∧ pt_bc pl x p d)))
    (by
      rintro k b t hb ⟨i1, i2⟩
      obtain ⟨t', q1, q2, q3⟩ := h20 b hb t
      refine ⟨t', ?_, fun r hr => by rw [q2 r hr, i1 r hr], fun d hd x hx => ?_⟩
      · show (if (w 0 0) ≤ pu_I b then some t else ((fX4_findBorders_L20 w pl (pu_I b) NF 0 t).bind fun (o20 : SL) => ((fX4_findBorders_L10 w pl k) (pu_I b + 1) o20))) = _
        rw [hw0, if_neg (by rw [pu_le (by omega) (by omega)]; omega), q1, Option.bind_some, pu_su]
      · rw [q3 d hd x hx, i2 d hd x hx]
        refine ⟨fun h => ?_, fun h => ?_⟩
        · rcases h with h | ⟨rfl, h⟩
          · exact ⟨by omega, h.2⟩
          · exact ⟨by omega, h⟩
        · by_cases e : x = b
          · subst e; exact Or.inr ⟨rfl, h.2⟩
          · exact Or.inl ⟨by omega, h.2⟩)
    (by
      rintro k t ⟨i1, i2⟩
      refine ⟨t, ?_, i1, i2⟩
      show (if (w 0 0) ≤ pu_I B then some t else _) = _
      rw [hw0, if_pos (Int32.le_refl _)]) B 0 NF (srl l 18 f1) (by omega) (by have := pv_NF; omega) ⟨fun r hr => pv_srl_n hr, fun d hd x hx => by
      rw [pv_srl_s, a2 d (by omega), pv_bt_0]
      exact ⟨fun h => (by cases h), fun h => absurd h.1 (Nat.not_lt_zero _)⟩⟩
  have e1 : fX4_findBorders_L10 w pl NF 0 (srl l 18 f1) = some t := e1
  refine ⟨t, ?_, t1, t2⟩
  unfold fX4_findBorders
  rw [a1, Option.bind_some, e1]
  rfl
end BD
