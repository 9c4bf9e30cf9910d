/-! pure side, the allocator 36: registers for all make code -/
/-- a line in shape: M lines, K registers, S slots -/
def pa_cl (x9 : ST) (M fs na K S i : Nat) : Prop :=
  (pu_gw (x9 2 i) = true → ∃ q, q < K ∧ x9 3 i = pu_I q) ∧ (pu_gw (x9 2 i) = false → x9 3 i = -1) ∧
  ((pu_ul (x9 2 i) = true ∨ x9 2 i = 23 ∨ x9 2 i = 24 ∨ x9 2 i = 28) → ∃ q, q < K ∧ x9 4 i = pu_I q) ∧
  (pu_ur (x9 2 i) = true → ∃ q, q < K ∧ x9 5 i = pu_I q) ∧
  (x9 2 i = 26 → ∃ s, s < S ∧ x9 4 i = pu_I s) ∧ (x9 2 i = 27 → ∃ s, s < S ∧ x9 5 i = pu_I s) ∧
  (x9 2 i = 22 → ∃ j, j < M ∧ x9 4 i = pu_I j) ∧ ((x9 2 i = 23 ∨ x9 2 i = 28) → ∃ j, j < M ∧ x9 5 i = pu_I j) ∧
  (x9 2 i = 25 → x9 3 i ≠ x9 4 i) ∧ (x9 2 i = 20 → ixb (x9 4 i) fs = true) ∧ (x9 2 i = 21 → ixb (x9 4 i) na = true) ∧
  (pu_kw (x9 2 i) ∨ x9 2 i = 22 ∨ x9 2 i = 23 ∨ x9 2 i = 28 ∨ x9 2 i = 24) ∧ (x9 2 i ≠ 22 → x9 2 i ≠ 24 → i + 1 < M)
theorem pa_fdl {ln : Nat → Nat} (h0 : ln 0 = 0) {i : Nat} : ∀ B, i < ln B → ∃ b, b < B ∧ ln b ≤ i ∧ i < ln (b + 1) := by
  intro B
  induction B with
  | zero => intro h; omega
  | succ B ih =>
    intro h
    by_cases e : i < ln B
    · obtain ⟨b, h1, h2⟩ := ih e
      exact ⟨b, by omega, h2⟩
    · exact ⟨B, Nat.lt_succ_self B, by omega, h⟩
section COD
variable {fs na B H K CN N V S : Nat} {F0 G : pu_Flow} {fw x9 g c9 : ST} {n2 : Nat → Nat} {qs : Nat → List Nat} {ln : Nat → Nat}
/-- the lines of a block's end -/
theorem pa_el_cl (hfl : pg_fl B N V fw x9 n2 qs) (hG : ∀ b, (G b).2.2 = (fw 8 b, pa_rg g (fw 9 b), fw 10 b, fw 11 b)) (hrg : ∀ b, b < B → fw 8 b = 23 ∨ fw 8 b = 24 → ∃ q, q < K ∧ pa_rg g (fw 9 b) = pu_I q) {b : Nat} (hb : b < B) :
    (b + 1 = B → 0 < (pa_el G ln b).length) ∧ ∀ j s, (pa_el G ln b)[j]? = some s →
      ((∃ t, t < B ∧ s = (22, -1, pu_I (ln t), -1)) ∨ (∃ q, q < K ∧ s = (24, -1, pu_I q, -1)) ∨ ((∃ q t, q < K ∧ t < B ∧ (s = (23, -1, pu_I q, pu_I (ln t)) ∨ s = (28, -1, pu_I q, pu_I (ln t)))) ∧ (b + 1 < B ∨ j + 1 < (pa_el G ln b).length))) := by
  obtain ⟨h0, h1, h2, h3, h4, h5⟩ := hfl.2.2.2.2.2 b hb
  have hB := hfl.1.2.2
  have e1 : (G b).2.2.1 = fw 8 b := by rw [hG]
  have e2 : (G b).2.2.2.1 = pa_rg g (fw 9 b) := by rw [hG]
  have e3 : (G b).2.2.2.2.1 = fw 10 b := by rw [hG]
  have e4 : (G b).2.2.2.2.2 = fw 11 b := by rw [hG]
  unfold pa_el
  rw [e1, e2, e3, e4]
  have one : ∀ (x : pu_Stp) (j : Nat) (s : pu_Stp), [x][j]? = some s → s = x ∧ j = 0 := fun x j s h => by
    cases j with
    | zero => exact ⟨(Option.some.inj h).symm, rfl⟩
    | succ j => cases h
  have hbt : ∀ t, t < B → fw 10 b = pu_I (b + 1) → fw 10 b = pu_I t → b + 1 < B := fun t ht q1 q2 => by
    rw [q1] at q2
    have := pu_inj (by omega) (by omega) q2
    omega
  have hbt2 : ∀ t, t < B → fw 11 b = pu_I (b + 1) → fw 11 b = pu_I t → b + 1 < B := fun t ht q1 q2 => by
    rw [q1] at q2
    have := pu_inj (by omega) (by omega) q2
    omega
  rcases h0 with h | h | h
  · obtain ⟨⟨t, t1, t2⟩, _⟩ := h3 h
    rw [if_pos h]
    by_cases q : fw 10 b = pu_I (b + 1)
    · rw [if_pos q]
      exact ⟨fun e => absurd (hbt t t1 q t2) (by omega), fun j s hj => by cases hj⟩
    · rw [if_neg q]
      refine ⟨fun _ => Nat.succ_pos _, fun j s hj => Or.inl ⟨t, t1, ?_⟩⟩
      rw [(one _ j s hj).1, t2, pu_nn (by omega)]
  · obtain ⟨⟨t, t1, t2⟩, t', t3, t4⟩ := h4 h
    obtain ⟨r, r1, r2⟩ := hrg b hb (Or.inl h)
    rw [if_neg (by rw [h]; decide), if_neg (by rw [h]; decide), r2]
    by_cases q : fw 11 b = pu_I (b + 1)
    · rw [if_pos q]
      refine ⟨fun _ => Nat.succ_pos _, fun j s hj => Or.inr (Or.inr ⟨⟨r, t, r1, t1, Or.inl ?_⟩, Or.inl (hbt2 t' t3 q t4)⟩)⟩
      rw [(one _ j s hj).1, t2, pu_nn (show t < 2147483648 by omega)]
    · rw [if_neg q]
      by_cases q2 : fw 10 b = pu_I (b + 1)
      · rw [if_pos q2]
        refine ⟨fun _ => Nat.succ_pos _, fun j s hj => Or.inr (Or.inr ⟨⟨r, t', r1, t3, Or.inr ?_⟩, Or.inl (hbt t t1 q2 t2)⟩)⟩
        rw [(one _ j s hj).1, t4, pu_nn (show t' < 2147483648 by omega)]
      · rw [if_neg q2, t2, t4, pu_nn (show t < 2147483648 by omega), pu_nn (show t' < 2147483648 by omega)]
        refine ⟨fun _ => Nat.succ_pos _, fun j s hj => ?_⟩
        cases j with
        | zero => exact Or.inr (Or.inr ⟨⟨r, t, r1, t1, Or.inl (Option.some.inj hj).symm⟩, Or.inr (show 0 + 1 < 2 by omega)⟩)
        | succ j =>
          cases j with
          | zero => exact Or.inl ⟨t', t3, (Option.some.inj hj).symm⟩
          | succ j => cases hj
  · obtain ⟨r, r1, r2⟩ := hrg b hb (Or.inr h)
    rw [if_neg (by rw [h]; decide), if_pos h, r2]
    refine ⟨fun _ => Nat.succ_pos _, fun j s hj => Or.inr (Or.inl ⟨r, r1, ?_⟩)⟩
    rw [(one _ j s hj).1]
/-- each line -/
theorem pa_cl_of (hfl : pg_fl B N V fw x9 n2 qs) (hnc : pa_nc B x9 qs) (hsk : pa_sk fs na B S x9 qs) (hrg : pa_rgk B K fw x9 g qs) (hG : ∀ b, (G b).2.2 = (fw 8 b, pa_rg g (fw 9 b), fw 10 b, fw 11 b)) (h0 : ln 0 = 0)
    (hC : ∀ b, b < B → ∀ j s, (pa_ls x9 g (qs b) ++ pa_el G ln b)[j]? = some s → pv_S c9 (ln b + j) = s) (hl : ∀ b, b < B → ln (b + 1) = ln b + (pa_ls x9 g (qs b)).length + (pa_el G ln b).length) : 0 < ln B ∧ ∀ i, i < ln B → pa_cl c9 (ln B) fs na K S i := by
  have hBp := hfl.1.2.1
  have hmono : ∀ d b, b + d ≤ B → ln b ≤ ln (b + d) := by
    intro d
    induction d with
    | zero => intro b _; exact Nat.le_refl _
    | succ d ih =>
      intro b hb
      have := ih b (by omega)
      have h9 := hl (b + d) (by omega)
      rw [show b + (d + 1) = b + d + 1 by omega]
      omega
  have hlast : ln (B - 1) + (pa_ls x9 g (qs (B - 1))).length < ln B := by
    have h9 := (pa_el_cl (ln := ln) hfl hG hrg.2 (show B - 1 < B by omega)).1 (by omega)
    have h8 := hl (B - 1) (by omega)
    rw [show B - 1 + 1 = B by omega] at h8
    omega
  have htg : ∀ t, t < B → ln t < ln B := fun t ht => by
    have h9 := hmono (B - 1 - t) t (by omega)
    rw [show t + (B - 1 - t) = B - 1 by omega] at h9
    omega
  refine ⟨by omega, fun i hi => ?_⟩
  obtain ⟨b, hb, b1, b2⟩ := pa_fdl h0 B hi
  have hlb := hl b hb
  obtain ⟨j, rfl⟩ : ∃ j, i = ln b + j := ⟨i - ln b, by omega⟩
  have hjl : j < (pa_ls x9 g (qs b) ++ pa_el G ln b).length := by rw [List.length_append]; omega
  have hs := hC b hb j _ (List.getElem?_eq_getElem hjl)
  have hnx : b + 1 < B ∨ j + 1 < (pa_ls x9 g (qs b) ++ pa_el G ln b).length → ln b + j + 1 < ln B := fun h => by
    rcases h with h | h
    · have := htg (b + 1) h
      omega
    · rw [List.length_append] at h
      have h9 := hmono (B - (b + 1)) (b + 1) (by omega)
      rw [show b + 1 + (B - (b + 1)) = B by omega] at h9
      omega
  by_cases hj : j < (pa_ls x9 g (qs b)).length
  · rw [List.getElem_append_left hj] at hs
    have hm : (pa_ls x9 g (qs b))[j] ∈ pa_ls x9 g (qs b) := List.getElem_mem hj
    rw [← hs] at hm
    obtain ⟨s0, hs0, e0⟩ := List.mem_map.mp hm
    obtain ⟨hs1, hs2⟩ := List.mem_filter.mp hs0
    obtain ⟨a, ha, rfl⟩ := List.mem_map.mp hs1
    obtain ⟨k1, k2, k3, k4, k5⟩ := hfl.2.2.2.2.1 b hb a ha
    obtain ⟨g1, g2, g3⟩ := hrg.1 b hb a ha
    obtain ⟨s1, s2, s3, s4⟩ := hsk b hb a ha
    have c2 : c9 2 (ln b + j) = x9 2 a := (congrArg (fun s => s.1) e0).symm
    have c3 : c9 3 (ln b + j) = (if pu_gw (x9 2 a) = true then pa_rg g (x9 3 a) else x9 3 a) := (congrArg (fun s => s.2.1) e0).symm
    have c4 : c9 4 (ln b + j) = (if pu_ul (x9 2 a) = true then pa_rg g (x9 4 a) else x9 4 a) := (congrArg (fun s => s.2.2.1) e0).symm
    have c5 : c9 5 (ln b + j) = (if pu_ur (x9 2 a) = true then pa_rg g (x9 5 a) else x9 5 a) := (congrArg (fun s => s.2.2.2) e0).symm
    unfold pa_cl
    rw [c2, c3, c4, c5]
    refine ⟨fun h => ?_, fun h => ?_, fun h => ?_, fun h => ?_, fun h => ?_, fun h => ?_, fun h => absurd h (pu_kw_ne k1).1, fun h => ?_, fun h => ?_, fun h => ?_, fun h => ?_, Or.inl k1, fun _ _ => ?_⟩
    · rw [if_pos h]; exact g3 h
    · rw [if_neg (by rw [h]; decide)]; exact k3 h
    · rcases h with h | h | h | h
      · rw [if_pos h]; exact g1 h
      · exact absurd h (pu_kw_ne k1).2.1
      · exact absurd h (pu_kw_ne k1).2.2.2
      · exact absurd h (pu_kw_ne k1).2.2.1
    · rw [if_pos h]; exact g2 h
    · rw [h, if_neg (by decide)]
      exact ⟨_, (s1 h).1, pu_of (s1 h).2⟩
    · rw [h, if_neg (by decide)]
      exact ⟨_, (s2 h).1, pu_of (s2 h).2⟩
    · rcases h with h | h
      · exact absurd h (pu_kw_ne k1).2.1
      · exact absurd h (pu_kw_ne k1).2.2.1
    · rw [h, if_pos (by decide), if_pos (by decide)]
      intro q
      have : pu_idl (pa_rg g) (pv_S x9 a) = true := decide_eq_true ⟨h, q⟩
      rw [this] at hs2
      cases hs2
    · rw [h, if_neg (by decide)]; exact s3 h
    · rw [h, if_neg (by decide)]; exact s4 h
    · by_cases e : b + 1 < B
      · exact hnx (Or.inl e)
      · refine hnx (Or.inr ?_)
        have h9 := (pa_el_cl (ln := ln) hfl hG hrg.2 hb).1 (by omega)
        rw [List.length_append]
        omega
  · rw [List.getElem_append_right (by omega)] at hs
    have hlen : j - (pa_ls x9 g (qs b)).length < (pa_el G ln b).length := by
      rw [List.length_append] at hjl
      omega
    have c2 : c9 2 (ln b + j) = ((pa_el G ln b)[j - (pa_ls x9 g (qs b)).length]).1 := congrArg (fun s => s.1) hs
    have c3 : c9 3 (ln b + j) = ((pa_el G ln b)[j - (pa_ls x9 g (qs b)).length]).2.1 := congrArg (fun s => s.2.1) hs
    have c4 : c9 4 (ln b + j) = ((pa_el G ln b)[j - (pa_ls x9 g (qs b)).length]).2.2.1 := congrArg (fun s => s.2.2.1) hs
    have c5 : c9 5 (ln b + j) = ((pa_el G ln b)[j - (pa_ls x9 g (qs b)).length]).2.2.2 := congrArg (fun s => s.2.2.2) hs
    unfold pa_cl
    rcases (pa_el_cl (ln := ln) hfl hG hrg.2 hb).2 _ _ (List.getElem?_eq_getElem hlen) with ⟨t, t1, e⟩ | ⟨q, q1, e⟩ | ⟨⟨q, t, q1, t1, e | e⟩, hn⟩ <;> rw [e] at c2 c3 c4 c5 <;> rw [c2, c3, c4, c5] <;> dsimp only
    · exact ⟨fun h => absurd h (by decide), fun _ => rfl, fun h => absurd h (by decide), fun h => absurd h (by decide), fun h => absurd h (by decide), fun h => absurd h (by decide), fun _ => ⟨_, htg t t1, rfl⟩, fun h => absurd h (by decide), fun h => absurd h (by decide), fun h => absurd h (by decide), fun h => absurd h (by decide), Or.inr (Or.inl rfl), fun h => absurd rfl h⟩
    · exact ⟨fun h => absurd h (by decide), fun _ => rfl, fun _ => ⟨q, q1, rfl⟩, fun h => absurd h (by decide), fun h => absurd h (by decide), fun h => absurd h (by decide), fun h => absurd h (by decide), fun h => absurd h (by decide), fun h => absurd h (by decide), fun h => absurd h (by decide), fun h => absurd h (by decide), Or.inr (Or.inr (Or.inr (Or.inr rfl))), fun _ h => absurd rfl h⟩
    · refine ⟨fun h => absurd h (by decide), fun _ => rfl, fun _ => ⟨q, q1, rfl⟩, fun h => absurd h (by decide), fun h => absurd h (by decide), fun h => absurd h (by decide), fun h => absurd h (by decide), fun _ => ⟨_, htg t t1, rfl⟩, fun h => absurd h (by decide), fun h => absurd h (by decide), fun h => absurd h (by decide), Or.inr (Or.inr (Or.inl rfl)), fun _ _ => hnx (hn.imp id fun h => ?_)⟩
      rw [List.length_append]
      omega
    · refine ⟨fun h => absurd h (by decide), fun _ => rfl, fun _ => ⟨q, q1, rfl⟩, fun h => absurd h (by decide), fun h => absurd h (by decide), fun h => absurd h (by decide), fun h => absurd h (by decide), fun _ => ⟨_, htg t t1, rfl⟩, fun h => absurd h (by decide), fun h => absurd h (by decide), fun h => absurd h (by decide), Or.inr (Or.inr (Or.inr (Or.inl rfl))), fun _ _ => hnx (hn.imp id fun h => ?_)⟩
      rw [List.length_append]
      omega
theorem pa_fin_code {an0 an n cn : Nat → Nat} {aw : ST} (h : pa_fin fs na F0 B H K CN an0 aw an fw x9 n2 g n) (hCN : CN < 8490) (hw17 : ∀ c, c < 61 → aw 17 c = pu_I (nn (aw 17 c))) (hR : ∃ R, pv_sR cn R ∧ R ≤ 12950) :
    ∃ aw' c' n' Fc W' ln M S, fX0_writeCode aw cn c9 fw n2 x9 n g = some (aw', c', n') ∧ pa_ok F0 Fc (fun b => b < B) W' ∧ pu_lay Fc (fun b => b < B) (pv_S c') ln ∧ ln 0 = 0 ∧ (c' 0 0 = pu_I M ∧ M ≤ CN + 120) ∧ (∃ R, pv_sR n' R ∧ M ≤ R ∧ R ≤ 12950) ∧ (∀ r, r ≠ 17 → aw' r = aw r) ∧ (∀ c, c < 61 → aw' 17 c = pu_I (nn (aw' 17 c))) ∧ (aw 0 10 = pu_I S ∧ S ≤ H) ∧ 0 < M ∧ ∀ i, i < M → pa_cl c' M fs na K S i := by
  obtain ⟨N, V, c1, qs, W', hfl, hnc, hsk, hc1, hV, hN, hrg, hok⟩ := h
  have hB := hfl.1.2.2
  obtain ⟨b1, b2⟩ := pa_ln_bd (x9 := x9) (g := g) (G := pu_roF (pg_F fw x9 qs) (pa_rg g)) hfl.2.2.2.1
  obtain ⟨aw', c', n', ln, e1, e2, e3, e4, e5, e6, e7, e8, e9, e10⟩ := pa_writeCode (w := aw) (g := g) (gn := n) (G := pu_roF (pg_F fw x9 qs) (pa_rg g)) (c9 := c9) (cn := cn) hfl hV (fun b => rfl) hw17 (fun i hi => by have := b1 i hi; omega) (by omega) hR
  have h9 := pa_cl_of (c9 := c') (ln := ln) hfl hnc hsk hrg (G := pu_roF (pg_F fw x9 qs) (pa_rg g)) (fun b => rfl) e3 e8 e9
  rw [e10] at h9
  exact ⟨aw', c', n', _, W', ln, _, c1, e1, hok, e2, e3, ⟨e4, by omega⟩, e5, e6, e7, hc1, h9.1, h9.2⟩
end COD
