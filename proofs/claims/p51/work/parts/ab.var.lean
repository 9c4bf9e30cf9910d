/-! pure side, the maker 10: what the blocks do to the variables -/
theorem pv_updL (f : RL) (i j : Nat) (v : Int64) : vp_updL f i v j = if j = i then v else f j := rfl
theorem pv_srl_s {w : SL} {r : Nat} {f : RL} : srl w r f r = f := by
  unfold srl; rw [if_pos rfl]
theorem pv_srl_n {w : SL} {r q : Nat} {f : RL} (h : q ≠ r) : srl w r f q = w q := by
  unfold srl; rw [if_neg h]
theorem pv_fillL {n : Nat} {f : RL} {v : Int64} (hn : n < 1000000) : ∃ g, fJ7_fill_d0a16 n f v = some g ∧ ∀ i, i < n → g i = v := by
  obtain ⟨g, h1, h2⟩ := pv_for (G := fun k i s => fJ7_fill_d0a16_L6 n v k i s) (hi := n) (Inv := fun k (g : RL) => ∀ i, i < k → g i = v) (Q := fun (g : RL) => ∀ i, i < n → g i = v)
    (fun k i s hi hI => by
      refine ⟨vp_updL s i v, ?_, fun j hj => ?_⟩
      · show (if Int32.ofNat n ≤ pu_I i then some s else (if ixb (pu_I i) n = true then (lt9 (vp_updL s (nn (pu_I i)) v) fun (f3 : RL) => ((fJ7_fill_d0a16_L6 n v k) (pu_I i + 1) f3)) else none)) = _
        have h1 : ¬ Int32.ofNat n ≤ pu_I i := by rw [show Int32.ofNat n = pu_I n from rfl, pu_le (by omega) (by omega)]; omega
        rw [if_neg h1, if_pos ((pu_ix (by omega)).mpr hi), pu_su, pu_nn (by omega)]
        rfl
      · rw [pv_updL]
        by_cases hji : j = i
        · rw [if_pos hji]
        · rw [if_neg hji]; exact hI j (by omega))
    (fun k s hI => ⟨s, by
      show (if Int32.ofNat n ≤ pu_I n then some s else _) = _
      rw [if_pos (Int32.le_refl _)], hI⟩) n 0 NF f (by omega) (by have := pv_NF; omega) (fun i hi => absurd hi (Nat.not_lt_zero _))
  refine ⟨g, ?_, h2⟩
  have h1 : fJ7_fill_d0a16_L6 n v NF 0 f = some g := h1
  unfold fJ7_fill_d0a16
  rw [h1]
  rfl
/-- where the ops of a block begin and end -/
def pt_os (w : ST) (B : Nat) (fo ot : Nat → Nat) : Prop := ∀ b, b < B → fX4_opsFrom w (pu_I b) = some (pu_I (fo b)) ∧ fX4_opsTo w (pu_I b) = some (pu_I (ot b)) ∧ fo b ≤ ot b ∧ ot b ≤ 3200
theorem pt_os_e {w w' : ST} {B : Nat} {fo ot : Nat → Nat} (h7 : w' 7 = w 7) (h8 : w' 8 = w 8) (h15 : w' 15 = w 15) (h : pt_os w B fo ot) : pt_os w' B fo ot := by
  intro b hb
  have h9 := h b hb
  unfold fX4_opsFrom fX4_opsTo at h9 ⊢
  rw [h7, h8, h15]
  exact h9
def pt_as (P : ST) (v i : Nat) : Prop := (P 9 i = 31 ∨ P 9 i = 32 ∨ P 9 i = 21) ∧ P 10 i = pu_I v
def pt_asg (P : ST) (f t v : Nat) : Prop := ∃ j, f ≤ j ∧ j < t ∧ pt_as P v j
def pt_use (P : ST) (f t v : Nat) : Prop := ∃ j, f ≤ j ∧ j < t ∧ (P 9 j = 30 ∧ P 10 j = pu_I v) ∧ ¬ pt_asg P f j v
theorem pt_asg_s {P : ST} {f t v : Nat} (h : f ≤ t) : pt_asg P f (t + 1) v ↔ pt_asg P f t v ∨ pt_as P v t := by
  constructor
  · rintro ⟨j, j1, j2, j3⟩
    by_cases e : j = t
    · rw [e] at j3; exact Or.inr j3
    · exact Or.inl ⟨j, j1, by omega, j3⟩
  · rintro (⟨j, j1, j2, j3⟩ | h2)
    · exact ⟨j, j1, by omega, j3⟩
    · exact ⟨t, h, by omega, h2⟩
theorem pt_use_s {P : ST} {f t v : Nat} (h : f ≤ t) : pt_use P f (t + 1) v ↔ pt_use P f t v ∨ ((P 9 t = 30 ∧ P 10 t = pu_I v) ∧ ¬ pt_asg P f t v) := by
  constructor
  · rintro ⟨j, j1, j2, j3⟩
    by_cases e : j = t
    · rw [e] at j3; exact Or.inr j3
    · exact Or.inl ⟨j, j1, by omega, j3⟩
  · rintro (⟨j, j1, j2, j3⟩ | h2)
    · exact ⟨j, j1, by omega, j3⟩
    · exact ⟨t, h, by omega, h2⟩
section NV
variable {P w fw : ST} {B : Nat} {fo ot : Nat → Nat}
/-- the bits, with block b as far as op i -/
def pt_nv (P : ST) (fo ot : Nat → Nat) (b i : Nat) (l : SL) : Prop :=
  ∀ v, v < 320 → ∀ x, x < 64 → (pv_bt (l 17 v) x = true ↔ (x < b ∧ pt_asg P (fo x) (ot x) v) ∨ (x = b ∧ pt_asg P (fo b) i v)) ∧ (pv_bt (l 16 v) x = true ↔ (x < b ∧ pt_use P (fo x) (ot x) v) ∨ (x = b ∧ pt_use P (fo b) i v))
theorem pv_orb {y : Int64} {b x : Nat} (hb : b < 64) : pv_bt (y ||| ((1 : Int64) <<< ((pu_I b).toInt64 &&& 63))) x = true ↔ pv_bt y x = true ∨ x = b := by
  rw [pv_bt_or, pv_bt_1 hb, Bool.or_eq_true, decide_eq_true_iff]
theorem pv_nv36 (hos : pt_os w B fo ot) (hB : B ≤ 60) (hv : ∀ b i, b < B → fo b ≤ i → i < ot b → (P 9 i = 30 ∨ P 9 i = 31 ∨ P 9 i = 32 ∨ P 9 i = 21) → ∃ u, u < 320 ∧ P 10 i = pu_I u) {b : Nat} (hb : b < B) {l0 : SL} (h0 : pt_nv P fo ot b (fo b) l0) :
    ∃ l', fX4_noteVariables_L36 w P (pu_I b) NF (pu_I (fo b)) l0 = some l' ∧ (∀ r, r ≠ 16 → r ≠ 17 → l' r = l0 r) ∧ pt_nv P fo ot b (ot b) l' := by
  obtain ⟨_, g2, g3, g4⟩ := hos b hb
  refine pv_for (G := fun k i (l : SL) => fX4_noteVariables_L36 w P (pu_I b) k i l) (hi := ot b) (Inv := fun i l => (∀ r, r ≠ 16 → r ≠ 17 → l r = l0 r) ∧ pt_nv P fo ot b i l ∧ fo b ≤ i) (Q := fun l' => (∀ r, r ≠ 16 → r ≠ 17 → l' r = l0 r) ∧ pt_nv P fo ot b (ot b) l') ?_ ?_ (ot b - fo b) (fo b) NF l0 (by omega) (by have := pv_NF; omega) ⟨fun r _ _ => rfl, h0, Nat.le_refl _⟩
  · rintro k i l hi ⟨i1, i2, i3⟩
    have hix : ixb (pu_I i) 3200 = true := (pu_ix (by omega)).mpr (by omega)
    have hin : nn (pu_I i) = i := pu_nn (by omega)
    have h104 : fX4_noteVariables_J104 (fX4_noteVariables_L36 w P (pu_I b) k) P (pu_I b) (pu_I i) l = (if P 9 i = 31 ∨ P 9 i = 32 ∨ P 9 i = 21 then (if ixb (P 10 i) 320 = true then fX4_noteVariables_L36 w P (pu_I b) k (pu_I (i + 1)) (upl l 17 (nn (P 10 i)) (l 17 (nn (P 10 i)) ||| ((1 : Int64) <<< ((pu_I b).toInt64 &&& 63)))) else none) else fX4_noteVariables_L36 w P (pu_I b) k (pu_I (i + 1)) l) := by
      unfold fX4_noteVariables_J104 fX4_noteVariables_J125 fX4_noteVariables_J139
      rw [hin, pu_su]
      have h125 : (if ixb (P 10 i) 320 = true then (if ixb (P 10 i) 320 = true then (lt9 (upl l 17 (nn (P 10 i)) (l 17 (nn (P 10 i)) ||| ((1 : Int64) <<< ((pu_I b).toInt64 &&& 63)))) fun (l13 : SL) => fX4_noteVariables_L36 w P (pu_I b) k (pu_I (i + 1)) l13) else none) else none) = (if ixb (P 10 i) 320 = true then fX4_noteVariables_L36 w P (pu_I b) k (pu_I (i + 1)) (upl l 17 (nn (P 10 i)) (l 17 (nn (P 10 i)) ||| ((1 : Int64) <<< ((pu_I b).toInt64 &&& 63)))) else none) := by
        by_cases h : ixb (P 10 i) 320 = true
        · rw [if_pos h, if_pos h, if_pos h]
          rfl
        · rw [if_neg h, if_neg h]
      rw [h125]
      by_cases e1 : P 9 i = 31
      · rw [if_pos e1, if_pos (Or.inl e1)]
      rw [if_neg e1]
      by_cases e2 : P 9 i = 32
      · rw [if_pos e2, if_pos (Or.inr (Or.inl e2))]
      rw [if_neg e2]
      by_cases e3 : P 9 i = 21
      · rw [if_pos e3, if_pos (Or.inr (Or.inr e3))]
      rw [if_neg e3, if_neg fun h => h.elim e1 fun h => h.elim e2 e3]
    have hstart : ∀ X : Option SL, ((fX4_opsTo w (pu_I b)).bind fun (o_6 : Int32) => (if o_6 ≤ pu_I i then some l else (if ixb (pu_I i) 3200 = true then (if ixb (pu_I i) 3200 = true then X else none) else none))) = X := by
      intro X
      rw [g2, Option.bind_some, if_neg (by rw [pu_le (by omega) (by omega)]; omega), if_pos hix, if_pos hix]
    have hform : fX4_noteVariables_L36 w P (pu_I b) (k + 1) (pu_I i) l = (if P 9 i = 30 then (if ixb (P 10 i) 320 = true then ((fX11_holds (l 17 (nn (P 10 i))) (pu_I b)).bind fun (o_19 : Int32) => (if o_19 = 0 then (if ixb (P 10 i) 320 = true then (if ixb (P 10 i) 320 = true then (lt9 (upl l 16 (nn (P 10 i)) ((l 16 (nn (P 10 i))) ||| (((1 : Int64) <<< ((pu_I b : Int32).toInt64 &&& 63))))) fun (l24 : SL) => (fX4_noteVariables_J139 (fX4_noteVariables_L36 w P (pu_I b) k) (pu_I i) l24)) else none) else none) else (fX4_noteVariables_J104 (fX4_noteVariables_L36 w P (pu_I b) k) P (pu_I b) (pu_I i) l))) else none) else (fX4_noteVariables_J104 (fX4_noteVariables_L36 w P (pu_I b) k) P (pu_I b) (pu_I i) l)) := by
      refine (hstart _).trans ?_
      rw [hin]
    have hplain : ¬ P 9 i = 30 → ¬ (P 9 i = 31 ∨ P 9 i = 32 ∨ P 9 i = 21) → pt_nv P fo ot b (i + 1) l := by
      intro n1 n2 v hv9 x hx
      have h9 := i2 v hv9 x hx
      rw [h9.1, h9.2, pt_asg_s i3, pt_use_s i3]
      refine ⟨⟨fun h => h.imp id fun h => ⟨h.1, Or.inl h.2⟩, fun h => h.imp id fun h => ⟨h.1, h.2.resolve_right fun h8 => n2 h8.1⟩⟩, ⟨fun h => h.imp id fun h => ⟨h.1, Or.inl h.2⟩, fun h => h.imp id fun h => ⟨h.1, h.2.resolve_right fun h8 => n1 h8.1.1⟩⟩⟩
    by_cases h30 : P 9 i = 30
    · obtain ⟨u, u1, u2⟩ := hv b i hb i3 hi (Or.inl h30)
      have hun : nn (P 10 i) = u := by rw [u2, pu_nn (by omega)]
      have hux : ixb (P 10 i) 320 = true := by rw [u2]; exact (pu_ix (by omega)).mpr u1
      have nas : ¬ (P 9 i = 31 ∨ P 9 i = 32 ∨ P 9 i = 21) := by rw [h30]; decide
      have hbu := (i2 u u1 b (by omega)).1
      rw [if_pos h30, if_pos hux, hun, pv_holds (by omega), Option.bind_some, if_pos hux, if_pos hux] at hform
      have hother : ∀ (l' : SL) v, v < 320 → v ≠ u → (l' 17 v = l 17 v ∧ l' 16 v = l 16 v) → ∀ x, x < 64 → (pv_bt (l' 17 v) x = true ↔ (x < b ∧ pt_asg P (fo x) (ot x) v) ∨ (x = b ∧ pt_asg P (fo b) (i + 1) v)) ∧ (pv_bt (l' 16 v) x = true ↔ (x < b ∧ pt_use P (fo x) (ot x) v) ∨ (x = b ∧ pt_use P (fo b) (i + 1) v)) := by
        intro l' v hv9 hne he x hx
        have h9 := i2 v hv9 x hx
        rw [he.1, he.2, h9.1, h9.2, pt_asg_s i3, pt_use_s i3]
        refine ⟨⟨fun h => h.imp id fun h => ⟨h.1, Or.inl h.2⟩, fun h => h.imp id fun h => ⟨h.1, h.2.resolve_right fun h8 => nas h8.1⟩⟩, ⟨fun h => h.imp id fun h => ⟨h.1, Or.inl h.2⟩, fun h => h.imp id fun h => ⟨h.1, h.2.resolve_right fun h8 => hne (pu_inj (by omega) (by omega) (h8.1.2.symm.trans u2))⟩⟩⟩
      cases hbb : pv_bt (l 17 u) b with
      | true =>
        rw [hbb, if_neg (show ¬ pv_b true = 0 by decide), h104, if_neg nas] at hform
        have hasg : pt_asg P (fo b) i u := by
          rcases hbu.mp hbb with h | h
          · omega
          · exact h.2
        refine ⟨l, hform, i1, fun v hv9 x hx => ?_, by omega⟩
        by_cases e : v = u
        · subst e
          have h9 := i2 v hv9 x hx
          rw [h9.1, h9.2, pt_asg_s i3, pt_use_s i3]
          refine ⟨⟨fun h => h.imp id fun h => ⟨h.1, Or.inl h.2⟩, fun h => h.imp id fun h => ⟨h.1, h.2.resolve_right fun h8 => nas h8.1⟩⟩, ⟨fun h => h.imp id fun h => ⟨h.1, Or.inl h.2⟩, fun h => h.imp id fun h => ⟨h.1, h.2.resolve_right fun h8 => h8.2 hasg⟩⟩⟩
        · exact hother l v hv9 e ⟨rfl, rfl⟩ x hx
      | false =>
        rw [hbb, if_pos (show pv_b false = 0 by decide)] at hform
        unfold fX4_noteVariables_J139 at hform
        simp only [lt9] at hform
        rw [pu_su] at hform
        have hasg : ¬ pt_asg P (fo b) i u := fun h => by
          have := hbu.mpr (Or.inr ⟨rfl, h⟩)
          rw [hbb] at this
          cases this
        refine ⟨_, hform, fun r r16 r17 => by rw [pv_upl_n r16, i1 r r16 r17], fun v hv9 x hx => ?_, by omega⟩
        by_cases e : v = u
        · subst e
          have h9 := i2 v hv9 x hx
          rw [pv_upl_n (by decide), pv_upl, if_pos ⟨rfl, rfl⟩, pv_orb (by omega), h9.1, h9.2, pt_asg_s i3, pt_use_s i3]
          refine ⟨⟨fun h => h.imp id fun h => ⟨h.1, Or.inl h.2⟩, fun h => h.imp id fun h => ⟨h.1, h.2.resolve_right fun h8 => nas h8.1⟩⟩, ⟨fun h => ?_, fun h => ?_⟩⟩
          · rcases h with h | h
            · exact h.imp id fun h => ⟨h.1, Or.inl h.2⟩
            · exact Or.inr ⟨h, Or.inr ⟨⟨h30, u2⟩, hasg⟩⟩
          · rcases h with h | ⟨h1, h2 | h2⟩
            · exact Or.inl (Or.inl h)
            · exact Or.inl (Or.inr ⟨h1, h2⟩)
            · exact Or.inr h1
        · exact hother _ v hv9 e ⟨by rw [pv_upl_n (by decide)], by rw [pv_upl, if_neg fun h => e h.2]⟩ x hx
    · rw [if_neg h30, h104] at hform
      by_cases has : P 9 i = 31 ∨ P 9 i = 32 ∨ P 9 i = 21
      · obtain ⟨u, u1, u2⟩ := hv b i hb i3 hi (Or.inr has)
        have hun : nn (P 10 i) = u := by rw [u2, pu_nn (by omega)]
        have hux : ixb (P 10 i) 320 = true := by rw [u2]; exact (pu_ix (by omega)).mpr u1
        rw [if_pos has, if_pos hux, hun] at hform
        refine ⟨_, hform, fun r r16 r17 => by rw [pv_upl_n r17, i1 r r16 r17], fun v hv9 x hx => ?_, by omega⟩
        have h9 := i2 v hv9 x hx
        rw [pv_upl_n (q := 16) (by decide), h9.2, pt_use_s i3, pt_asg_s i3]
        refine ⟨?_, ⟨fun h => h.imp id fun h => ⟨h.1, Or.inl h.2⟩, fun h => h.imp id fun h => ⟨h.1, h.2.resolve_right fun h8 => h30 h8.1.1⟩⟩⟩
        rw [pv_upl]
        by_cases e : v = u
        · rw [if_pos ⟨rfl, e⟩, ← e, pv_orb (by omega), h9.1]
          refine ⟨fun h => ?_, fun h => ?_⟩
          · rcases h with h | h
            · exact h.imp id fun h => ⟨h.1, Or.inl h.2⟩
            · exact Or.inr ⟨h, Or.inr ⟨has, by rw [e]; exact u2⟩⟩
          · rcases h with h | ⟨h1, h2 | h2⟩
            · exact Or.inl (Or.inl h)
            · exact Or.inl (Or.inr ⟨h1, h2⟩)
            · exact Or.inr h1
        · rw [if_neg fun h => e h.2, h9.1]
          exact ⟨fun h => h.imp id fun h => ⟨h.1, Or.inl h.2⟩, fun h => h.imp id fun h => ⟨h.1, h.2.resolve_right fun h8 => e (pu_inj (by omega) (by omega) (h8.2.symm.trans u2))⟩⟩
      · rw [if_neg has] at hform
        exact ⟨l, hform, i1, hplain h30 has, by omega⟩
  · rintro k l ⟨i1, i2, i3⟩
    refine ⟨l, ?_, i1, i2⟩
    show ((fX4_opsTo w (pu_I b)).bind fun (o_6 : Int32) => (if o_6 ≤ pu_I (ot b) then some l else _)) = _
    rw [g2, Option.bind_some, if_pos (Int32.le_refl _)]
end NV
