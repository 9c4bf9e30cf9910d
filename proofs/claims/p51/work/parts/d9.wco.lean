/-! pure side, the allocator 34: writeCode whole -/
section WCQ
variable {B N V : Nat} {fw x9 g w : ST} {n2 gn : Nat → Nat} {qs : Nat → List Nat} {G : pu_Flow}
theorem pa_el_cg {ln ln' : Nat → Nat} {b : Nat} (h1 : (G b).2.2.1 ≠ 24 → ln (nn (G b).2.2.2.2.1) = ln' (nn (G b).2.2.2.2.1)) (h2 : (G b).2.2.1 ≠ 24 → (G b).2.2.1 ≠ 22 → ln (nn (G b).2.2.2.2.2) = ln' (nn (G b).2.2.2.2.2)) : pa_el G ln b = pa_el G ln' b := by
  unfold pa_el
  by_cases e22 : (G b).2.2.1 = 22
  · rw [if_pos e22, if_pos e22, h1 (by rw [e22]; decide)]
  · rw [if_neg e22, if_neg e22]
    by_cases e24 : (G b).2.2.1 = 24
    · rw [if_pos e24, if_pos e24]
    · rw [if_neg e24, if_neg e24, h1 e24, h2 e24 e22]
theorem pa_writeCode (hfl : pg_fl B N V fw x9 n2 qs) (hV : V ≤ gn 17) (hG : ∀ b, (G b).2 = (pa_ls x9 g (qs b), (fw 8 b, pa_rg g (fw 9 b), fw 10 b, fw 11 b))) (hw17 : ∀ c, c < 61 → w 17 c = pu_I (nn (w 17 c))) (hK : ∀ i, i < B → pa_ln x9 g G qs i + (qs i).length < 8610) (hKB : pa_ln x9 g G qs B < 100000) {c9 : ST} {cn : Nat → Nat} (hR : ∃ R, pv_sR cn R ∧ R ≤ 12950) :
    ∃ w' c' n' ln, fX0_writeCode w cn c9 fw n2 x9 gn g = some (w', c', n') ∧ pu_lay G (fun b => b < B) (pv_S c') ln ∧ ln 0 = 0 ∧ c' 0 0 = pu_I (pa_ln x9 g G qs B) ∧ (∃ R, pv_sR n' R ∧ pa_ln x9 g G qs B ≤ R ∧ R ≤ 12950) ∧ (∀ r, r ≠ 17 → w' r = w r) ∧ (∀ c, c < 61 → w' 17 c = pu_I (nn (w' 17 c))) ∧
      (∀ b, b < B → ∀ j s, (pa_ls x9 g (qs b) ++ pa_el G ln b)[j]? = some s → pv_S c' (ln b + j) = s) ∧ (∀ b, b < B → ln (b + 1) = ln b + (pa_ls x9 g (qs b)).length + (pa_el G ln b).length) ∧ ln B = pa_ln x9 g G qs B := by
  have hB := hfl.1.2.2
  have hend := hfl.2.2.2.2.2
  have hG2 : ∀ b, (G b).2.2 = (fw 8 b, pa_rg g (fw 9 b), fw 10 b, fw 11 b) := fun b => by rw [hG]
  obtain ⟨o4, e1, e2, e3, e4⟩ := pa_wc4 (g := g) (w := w) (G := G) hfl hV fun b _ => ⟨_, hG2 b⟩
  obtain ⟨ln1, hl1⟩ : ∃ ln1 : Nat → Nat, ln1 = fun c => if c < B then pa_ln x9 g G qs c else nn (w 17 c) := ⟨_, rfl⟩
  obtain ⟨ln, hl2⟩ : ∃ ln : Nat → Nat, ln = fun c => if c ≤ B then pa_ln x9 g G qs c else 0 := ⟨_, rfl⟩
  have hln1 : ∀ c, c < 61 → o4 17 c = pu_I (ln1 c) := fun c hc => by
    rw [hl1]
    by_cases e : c < B
    · rw [e3 c e]
      show _ = pu_I (if c < B then _ else _)
      rw [if_pos e]
    · rw [e4 c (by omega)]
      show _ = pu_I (if c < B then _ else _)
      rw [if_neg e]
      exact hw17 c hc
  obtain ⟨s, f1, f2, f3, f4⟩ := pa_wc94 (o4 := o4) (ln1 := ln1) hfl hV (fun b _ => hG2 b) hln1 hK (c9 := upw c9 0 0 0) (cn := cn) (by rw [pv_upw, if_pos ⟨rfl, rfl⟩]) hR
  have hlB : ∀ c, c < B → ln1 c = ln c := fun c hc => by
    rw [hl1, hl2]
    show (if c < B then _ else _) = (if c ≤ B then _ else _)
    rw [if_pos hc, if_pos (by omega)]
  have hel : ∀ b, b < B → pa_el G ln1 b = pa_el G ln b := fun b hb => by
    obtain ⟨h0, h1, h2, h3, h4, h5⟩ := hend b hb
    refine pa_el_cg (fun h => ?_) (fun h h9 => ?_)
    · rw [hG2] at h ⊢
      have h : fw 8 b ≠ 24 := h
      show ln1 (nn (fw 10 b)) = ln (nn (fw 10 b))
      rcases h0 with q | q | q
      · obtain ⟨⟨c, q1, q2⟩, _⟩ := h3 q
        rw [q2, pu_nn (by omega)]; exact hlB c q1
      · obtain ⟨⟨c, q1, q2⟩, _⟩ := h4 q
        rw [q2, pu_nn (by omega)]; exact hlB c q1
      · exact absurd q h
    · rw [hG2] at h h9 ⊢
      have h : fw 8 b ≠ 24 := h
      have h9 : fw 8 b ≠ 22 := h9
      show ln1 (nn (fw 11 b)) = ln (nn (fw 11 b))
      rcases h0 with q | q | q
      · exact absurd q h9
      · obtain ⟨_, c, q1, q2⟩ := h4 q
        rw [q2, pu_nn (by omega)]; exact hlB c q1
      · exact absurd q h
  have hle : ∀ b, b ≤ B → ln b = pa_ln x9 g G qs b := fun b hb => by
    rw [hl2]
    show (if b ≤ B then _ else _) = _
    rw [if_pos hb]
  have hlen9 : ∀ b, b < B → ln (b + 1) = ln b + (pa_ls x9 g (qs b)).length + (pa_el G ln b).length := fun b hb => by
    rw [hle (b + 1) (by omega), hle b (by omega)]
    show _ + _ + _ = _
    rw [pa_el_len ln (fun _ => 0)]
  have hC9 : ∀ b, b < B → ∀ j t, (pa_ls x9 g (qs b) ++ pa_el G ln b)[j]? = some t → pv_S s.1 (ln b + j) = t := fun b hb j t ht => by
    rw [hle b (by omega)]
    rw [← hel b hb] at ht
    exact f4 b hb j t ht
  have hln9 : ∀ b, ln b < 2147483648 := fun b => by
    rw [hl2]
    show (if b ≤ B then _ else _) < _
    by_cases e : b ≤ B
    · rw [if_pos e]
      have := pa_ln_mono (x9 := x9) (g := g) (G := G) (qs := qs) e
      omega
    · rw [if_neg e]; decide
  refine ⟨o4, s.1, s.2, ln, ?_, pa_lay hB (fun b hb => ?_) (fun b hb j t ht => ?_) (fun b hb => ?_) hln9, by rw [hle 0 (Nat.zero_le B)]; rfl, f2, f3, e2, fun c hc => pu_of ?_, hC9, hlen9, hle B (Nat.le_refl B)⟩
  · unfold fX0_writeCode
    rw [e1, Option.bind_some]
    unfold lt9 fX0_writeCode_G167_45
    dsimp only
    rw [f1, Option.bind_some]
  · rw [hG b]
    exact hlen9 b hb
  · rw [hG b] at ht
    exact hC9 b hb j t ht
  · rw [hG2]
    exact (hend b hb).1
  · rw [hln1 c hc]
    refine pu_ge ?_
    rw [hl1]
    show (if c < B then _ else _) < _
    by_cases e : c < B
    · rw [if_pos e]
      have := pa_ln_mono (x9 := x9) (g := g) (G := G) (qs := qs) (show c ≤ B by omega)
      omega
    · rw [if_neg e]
      have h9 := hw17 c hc
      have h8 : nn (w 17 c) < 2147483648 := by
        have := Int32.toNatClampNeg_lt (w 17 c)
        omega
      exact h8
end WCQ
