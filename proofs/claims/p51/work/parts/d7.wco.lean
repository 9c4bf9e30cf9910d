/-! pure side, the allocator 32: where blocks' lines begin -/
section WCO
variable {B N V : Nat} {fw x9 g w : ST} {n2 gn : Nat → Nat} {qs : Nat → List Nat} {G : pu_Flow}
theorem pa_el_len (ln ln' : Nat → Nat) (b : Nat) : (pa_el G ln b).length = (pa_el G ln' b).length := by
  unfold pa_el
  by_cases h1 : (G b).2.2.1 = 22
  · rw [if_pos h1, if_pos h1]
    by_cases h2 : (G b).2.2.2.2.1 = pu_I (b + 1)
    · rw [if_pos h2, if_pos h2]
    · rw [if_neg h2, if_neg h2]; rfl
  · rw [if_neg h1, if_neg h1]
    by_cases h2 : (G b).2.2.1 = 24
    · rw [if_pos h2, if_pos h2]
    · rw [if_neg h2, if_neg h2]
      by_cases h3 : (G b).2.2.2.2.2 = pu_I (b + 1)
      · rw [if_pos h3, if_pos h3]; rfl
      · rw [if_neg h3, if_neg h3]
        by_cases h4 : (G b).2.2.2.2.1 = pu_I (b + 1)
        · rw [if_pos h4, if_pos h4]; rfl
        · rw [if_neg h4, if_neg h4]; rfl
/-- where blocks' lines begin -/
def pa_ln (x9 g : ST) (G : pu_Flow) (qs : Nat → List Nat) : Nat → Nat
  | 0 => 0
  | b + 1 => pa_ln x9 g G qs b + (pa_ls x9 g (qs b)).length + (pa_el G (fun _ => 0) b).length
theorem pa_wc4 (hfl : pg_fl B N V fw x9 n2 qs) (hV : V ≤ gn 17) (hG : ∀ b, b < B → ∃ v, (G b).2.2 = (fw 8 b, v, fw 10 b, fw 11 b)) :
    ∃ w', fX0_writeCode_L4 fw n2 x9 gn g NF 0 0 w = some w' ∧ (∀ r, r ≠ 17 → w' r = w r) ∧ (∀ c, c < B → w' 17 c = pu_I (pa_ln x9 g G qs c)) ∧ ∀ c, B ≤ c → w' 17 c = w 17 c := by
  obtain ⟨⟨hB0, hBp, hB⟩, ⟨⟨r2, r3, r4, r5, r6⟩, hN, hVl⟩, hst, hd, hstep, hend⟩ := hfl
  obtain ⟨t, e1, e2, e3, e4, e5⟩ := pv_for (σ := Int32 × ST) (G := fun k i (s : Int32 × ST) => fX0_writeCode_L4 fw n2 x9 gn g k s.1 i s.2) (hi := B)
    (Inv := fun i s => s.1 = pu_I (pa_ln x9 g G qs i) ∧ (∀ r, r ≠ 17 → s.2 r = w r) ∧ (∀ c, c < i → s.2 17 c = pu_I (pa_ln x9 g G qs c)) ∧ ∀ c, i ≤ c → s.2 17 c = w 17 c)
    (Q := fun (s : ST) => True ∧ (∀ r, r ≠ 17 → s r = w r) ∧ (∀ c, c < B → s 17 c = pu_I (pa_ln x9 g G qs c)) ∧ ∀ c, B ≤ c → s 17 c = w 17 c)
    (fun k i s hi hI => by
      obtain ⟨i1, i2, i3, i4⟩ := hI
      obtain ⟨v, hv⟩ := hG i hi
      have h33 := pa_33 (g := g) (gn := gn) (by omega) r2 r3 r4 r6 (hst.1 i hi) (fun a ha => hd.1 i hi a ha) (by have := pv_len N (qs i) (hd.2.1 i hi) (hd.1 i hi); omega) (fun a ha => by
        obtain ⟨s0, s1, s2, s3, s4⟩ := hstep i hi a ha
        refine ⟨fun h => ?_, s2, fun h => ?_, fun h => ?_⟩
        · obtain ⟨u, u1, u2⟩ := s1 h
          rw [u2]; exact (pu_ix (by omega)).mpr (by omega)
        · obtain ⟨u, u1, u2⟩ := s3 h
          rw [u2]; exact (pu_ix (by omega)).mpr (by omega)
        · obtain ⟨u, u1, u2⟩ := s4 h
          rw [u2]; exact (pu_ix (by omega)).mpr (by omega)) (pa_ln x9 g G qs i)
      have hen := pa_endLines (ln := fun _ => 0) (G := G) (show i < 60 by omega) hv (hend i hi).1
      refine ⟨(pu_I (pa_ln x9 g G qs (i + 1)), upw s.2 17 i (pu_I (pa_ln x9 g G qs i))), ?_, rfl, fun r hr => ?_, fun c hc => ?_, fun c hc => ?_⟩
      · show (if (fw 0 0) ≤ pu_I i then some s.2 else (if ixb (pu_I i) 61 = true then (lt9 (upw s.2 17 (nn (pu_I i)) s.1) fun (w3 : ST) => (if ixb (pu_I i) 60 = true then ((fX0_writeCode_L33 n2 x9 gn g NF s.1 (fw 4 (nn (pu_I i)))).bind fun (o33 : Int32) => ((fX0_endLines (pu_I i) fw).bind fun (o_10 : Int32) => ((fX0_writeCode_L4 fw n2 x9 gn g k) (o33 + o_10) (pu_I i + 1) w3))) else none)) else none)) = _
        rw [hB0, if_neg (by rw [pu_le (by omega) (by omega)]; omega), if_pos ((pu_ix (by omega)).mpr (by omega)), pu_nn (show i < 2147483648 by omega), i1]
        unfold lt9
        dsimp only
        rw [if_pos ((pu_ix (by omega)).mpr (by omega)), h33, Option.bind_some, hen, Option.bind_some, pv_add, pu_su]
        rfl
      · show upw s.2 17 i _ r = _
        rw [pv_upw_n hr, i2 r hr]
      · show upw s.2 17 i _ 17 c = _
        by_cases e : c = i
        · rw [e, pv_upw, if_pos ⟨rfl, rfl⟩]
        · rw [pv_upw, if_neg (fun h => e h.2)]; exact i3 c (by omega)
      · show upw s.2 17 i _ 17 c = _
        rw [pv_upw, if_neg (fun h => by have := h.2; omega)]; exact i4 c (by omega))
    (fun k s hI => ⟨s.2, by
      show (if (fw 0 0) ≤ pu_I B then some s.2 else _) = _
      rw [hB0, if_pos (Int32.le_refl _)], trivial, hI.2⟩)
    B 0 NF (0, w) (by omega) (by have := pv_NF; omega) ⟨rfl, fun _ _ => rfl, fun c hc => by omega, fun _ _ => rfl⟩
  exact ⟨t, e1, e3, e4, e5⟩
end WCO
