/-! pure side, the allocator 33: all lines, written -/
section WCP
variable {B N V : Nat} {fw x9 g o4 : ST} {n2 gn : Nat → Nat} {qs : Nat → List Nat} {G : pu_Flow} {ln1 : Nat → Nat}
theorem pa_ln_mono {i j : Nat} (h : i ≤ j) : pa_ln x9 g G qs i ≤ pa_ln x9 g G qs j := by
  induction h with
  | refl => exact Nat.le_refl _
  | step _ ih =>
    refine Nat.le_trans ih ?_
    show _ ≤ _ + _ + _
    omega
/-- some blocks' lines are written -/
def pa_wi (x9 g : ST) (G : pu_Flow) (qs : Nat → List Nat) (ln1 : Nat → Nat) (i : Nat) (s : ST × (Nat → Nat)) : Prop :=
  s.1 0 0 = pu_I (pa_ln x9 g G qs i) ∧ (∃ R, pv_sR s.2 R ∧ pa_ln x9 g G qs i ≤ R ∧ R ≤ 12950) ∧ ∀ b, b < i → ∀ j t, (pa_ls x9 g (qs b) ++ pa_el G ln1 b)[j]? = some t → pv_S s.1 (pa_ln x9 g G qs b + j) = t
theorem pa_wc94 (hfl : pg_fl B N V fw x9 n2 qs) (hV : V ≤ gn 17) (hG : ∀ b, b < B → (G b).2.2 = (fw 8 b, pa_rg g (fw 9 b), fw 10 b, fw 11 b)) (hln : ∀ c, c < 61 → o4 17 c = pu_I (ln1 c)) (hK : ∀ i, i < B → pa_ln x9 g G qs i + (qs i).length < 8610) {c9 : ST} {cn : Nat → Nat} (hc : c9 0 0 = 0) (hR : ∃ R, pv_sR cn R ∧ R ≤ 12950) :
    ∃ s, fX0_writeCode_L94 fw n2 x9 gn g o4 NF 0 c9 cn = some s ∧ pa_wi x9 g G qs ln1 B s := by
  obtain ⟨⟨hB0, hBp, hB⟩, ⟨⟨r2, r3, r4, r5, r6⟩, hN, hVl⟩, hst, hd, hstep, hend⟩ := hfl
  refine pv_for (σ := ST × (Nat → Nat)) (G := fun k i (s : ST × (Nat → Nat)) => fX0_writeCode_L94 fw n2 x9 gn g o4 k i s.1 s.2) (hi := B)
    (Inv := fun i s => pa_wi x9 g G qs ln1 i s) (Q := fun s => pa_wi x9 g G qs ln1 B s)
    (fun k i s hi hI => ?_) (fun k s hI => ⟨s, ?_, hI⟩) B 0 NF (c9, cn) (by omega) (by have := pv_NF; omega) ⟨hc, by obtain ⟨R, R1, R2⟩ := hR; exact ⟨R, R1, Nat.zero_le R, R2⟩, fun b hb => by omega⟩
  · obtain ⟨i1, i2, i3⟩ := hI
    have hKi := hK i hi
    obtain ⟨c1, n1, e1, e2⟩ := pa_116 (g := g) (gn := gn) (by omega) r2 r3 r4 r5 r6 (hst.1 i hi) (fun a ha => hd.1 i hi a ha) (by have := pv_len N (qs i) (hd.2.1 i hi) (hd.1 i hi); omega) (fun a ha => by
        obtain ⟨s0, s1, s2, s3, s4⟩ := hstep i hi a ha
        refine ⟨fun h => ?_, s2, fun h => ?_, fun h => ?_⟩
        · obtain ⟨u, u1, u2⟩ := s1 h
          rw [u2]; exact (pu_ix (by omega)).mpr (by omega)
        · obtain ⟨u, u1, u2⟩ := s3 h
          rw [u2]; exact (pu_ix (by omega)).mpr (by omega)
        · obtain ⟨u, u1, u2⟩ := s4 h
          rw [u2]; exact (pu_ix (by omega)).mpr (by omega)) (by omega) i1 i2
    have hlen := pa_ls_len (x9 := x9) (g := g) (qs i)
    obtain ⟨h0, h1, h2, h3, h4, h5⟩ := hend i hi
    obtain ⟨c2, n2', f1, f2⟩ := pa_writeEnd (w := o4) (fw := fw) (g := g) (gn := gn) (ln := ln1) (G := G) (b := i) (by omega) (hG i hi) h0 (fun h => by
      rcases h0 with q | q | q
      · obtain ⟨⟨c, q1, q2⟩, _⟩ := h3 q
        rw [q2]; exact (pu_ix (by omega)).mpr (by omega)
      · obtain ⟨⟨c, q1, q2⟩, _⟩ := h4 q
        rw [q2]; exact (pu_ix (by omega)).mpr (by omega)
      · exact absurd q h) (fun h => by
      obtain ⟨_, c, q1, q2⟩ := h4 h
      rw [q2]; exact (pu_ix (by omega)).mpr (by omega)) hln (fun h => by
      rcases h0 with q | q
      · exact absurd q h
      · obtain ⟨u, u1, u2⟩ := h2 q
        rw [u2]; exact (pu_ix (by omega)).mpr (by omega)) (show pa_ln x9 g G qs i + (pa_ls x9 g (qs i)).length < 8620 by omega) e2.1 e2.2.2.2
    obtain ⟨g1, g2, g3, g4⟩ := pa_wr_tr e2 f2
    have hsu : pa_ln x9 g G qs i + (pa_ls x9 g (qs i) ++ pa_el G ln1 i).length = pa_ln x9 g G qs (i + 1) := by
      rw [List.length_append, pa_el_len ln1 (fun _ => 0)]
      show _ = _ + _ + _
      omega
    rw [hsu] at g1 g4
    refine ⟨(c2, n2'), ?_, g1, g4, fun b hb j t ht => ?_⟩
    · show (if (fw 0 0) ≤ pu_I i then some (s.1, s.2) else (if ixb (pu_I i) 60 = true then ((fX0_writeCode_L116 n2 x9 gn g NF (fw 4 (nn (pu_I i))) s.1 s.2).bind fun (o116 : ST × (Nat → Nat)) => (fX0_writeCode_G155_32 (fX0_writeCode_L94 fw n2 x9 gn g o4 k) fw gn g o4 (pu_I i) o116)) else none)) = _
      rw [hB0, if_neg (by rw [pu_le (by omega) (by omega)]; omega), if_pos ((pu_ix (by omega)).mpr (by omega)), pu_nn (show i < 2147483648 by omega), e1, Option.bind_some]
      unfold fX0_writeCode_G155_32 fX0_writeCode_G161_44
      dsimp only
      rw [f1, Option.bind_some, pu_su]
    · by_cases e : b = i
      · subst e
        exact g2 j t ht
      · have hj : j < (pa_ls x9 g (qs b) ++ pa_el G ln1 b).length := by
          by_cases hj : j < (pa_ls x9 g (qs b) ++ pa_el G ln1 b).length
          · exact hj
          · rw [List.getElem?_eq_none (by omega)] at ht; cases ht
        have hle : pa_ln x9 g G qs b + j < pa_ln x9 g G qs i := by
          have h9 := pa_ln_mono (x9 := x9) (g := g) (G := G) (qs := qs) (show b + 1 ≤ i by omega)
          have h8 : pa_ln x9 g G qs (b + 1) = pa_ln x9 g G qs b + (pa_ls x9 g (qs b)).length + (pa_el G (fun _ => 0) b).length := rfl
          rw [List.length_append, pa_el_len ln1 (fun _ => 0)] at hj
          omega
        rw [← i3 b (by omega) j t ht]
        unfold pv_S
        show (c2 2 _, c2 3 _, c2 4 _, c2 5 _) = _
        rw [g3 2 _ (by decide) hle, g3 3 _ (by decide) hle, g3 4 _ (by decide) hle, g3 5 _ (by decide) hle]
  · show (if (fw 0 0) ≤ pu_I B then some (s.1, s.2) else _) = _
    rw [hB0, if_pos (Int32.le_refl _)]
end WCP
