/-! pure side, the allocator 9: the lines of a block's end, written -/
section WRE
variable {w fw g : ST} {gn : Nat → Nat} {ln : Nat → Nat} {G : pu_Flow} {b : Nat}
/-- lines were written behind K others -/
def pa_wr (c9 : ST) (cn : Nat → Nat) (K : Nat) (ls : List pu_Stp) (c9' : ST) (cn' : Nat → Nat) : Prop :=
  c9' 0 0 = pu_I (K + ls.length) ∧ (∀ j s, ls[j]? = some s → pv_S c9' (K + j) = s) ∧ (∀ r i, r ≠ 0 → i < K → c9' r i = c9 r i) ∧ ∃ R, pv_sR cn' R ∧ K + ls.length ≤ R ∧ R ≤ 12950
theorem pa_wr0 {c9 : ST} {cn : Nat → Nat} {K : Nat} (hc : c9 0 0 = pu_I K) (hR : ∃ R, pv_sR cn R ∧ K ≤ R ∧ R ≤ 12950) : pa_wr c9 cn K [] c9 cn := ⟨hc, fun j s h => (by cases h), fun _ _ _ _ => rfl, hR⟩
theorem pa_wr1 {c9 : ST} {cn : Nat → Nat} {K : Nat} (hK : K < 8630) (hc : c9 0 0 = pu_I K) (hR : ∃ R, pv_sR cn R ∧ K ≤ R ∧ R ≤ 12950) (k gv lf rt : Int32) : ∃ c9' cn', fX9_add cn c9 k gv lf rt = some (pu_I K, c9', cn') ∧ pa_wr c9 cn K [(k, gv, lf, rt)] c9' cn' := by
  obtain ⟨R, hR1, hR2, hR3⟩ := hR
  obtain ⟨c9', cn', R', e1, e2, _, ⟨e3, e4, e5, e6, _⟩, e7, _, e8, e9, e10, _⟩ := pv_add9 (w2 := c9) (n2 := cn) hc hR1 hR2 (by omega) k gv lf rt
  refine ⟨c9', cn', e1, e2, fun j s h => ?_, e7, R', e8, e9, by rcases e10 with h | h <;> omega⟩
  cases j with
  | zero =>
    have h : some (k, gv, lf, rt) = some s := h
    rw [← Option.some.inj h]
    show (c9' 2 K, c9' 3 K, c9' 4 K, c9' 5 K) = _
    rw [e3, e4, e5, e6]
  | succ j =>
    have h : ([] : List pu_Stp)[j]? = some s := h
    cases h
theorem pa_wr_tr {c9 c91 c92 : ST} {cn cn1 cn2 : Nat → Nat} {K : Nat} {l1 l2 : List pu_Stp} (h1 : pa_wr c9 cn K l1 c91 cn1) (h2 : pa_wr c91 cn1 (K + l1.length) l2 c92 cn2) : pa_wr c9 cn K (l1 ++ l2) c92 cn2 := by
  obtain ⟨a1, a2, a3, a4⟩ := h1
  obtain ⟨b1, b2, b3, b4⟩ := h2
  refine ⟨by rw [b1, List.length_append, Nat.add_assoc], fun j s h => ?_, fun r i r0 hi => by rw [b3 r i r0 (by omega), a3 r i r0 hi], by rw [List.length_append, ← Nat.add_assoc]; exact b4⟩
  by_cases e : j < l1.length
  · rw [List.getElem?_append_left e] at h
    rw [← a2 j s h]
    unfold pv_S
    rw [b3 2 _ (by decide) (by omega), b3 3 _ (by decide) (by omega), b3 4 _ (by decide) (by omega), b3 5 _ (by decide) (by omega)]
  · rw [List.getElem?_append_right (by omega)] at h
    rw [← b2 _ s h]
    congr 1
    omega
theorem pa_writeEnd {c9 : ST} {cn : Nat → Nat} {K : Nat} (hb : b < 60) (hG : (G b).2.2 = (fw 8 b, pa_rg g (fw 9 b), fw 10 b, fw 11 b)) (hkd : fw 8 b = 22 ∨ fw 8 b = 23 ∨ fw 8 b = 24) (h10 : fw 8 b ≠ 24 → ixb (fw 10 b) 61 = true) (h11 : fw 8 b = 23 → ixb (fw 11 b) 61 = true) (hln : ∀ c, c < 61 → w 17 c = pu_I (ln c)) (hv : fw 8 b ≠ 22 → ixb (fw 9 b) (gn 17) = true)
    (hK : K < 8620) (hc : c9 0 0 = pu_I K) (hR : ∃ R, pv_sR cn R ∧ K ≤ R ∧ R ≤ 12950) : ∃ c9' cn', fX0_writeEnd w cn c9 (pu_I b) fw gn g = some (c9', cn') ∧ pa_wr c9 cn K (pa_el G ln b) c9' cn' := by
  have hbx : ixb (pu_I b) 60 = true := (pu_ix (by omega)).mpr hb
  have hbn : nn (pu_I b) = b := pu_nn (by omega)
  unfold fX0_writeEnd pa_el
  rw [hG]
  dsimp only
  rw [if_pos hbx, if_pos hbx, if_pos hbx, hbn, pu_su]
  by_cases h22 : fw 8 b = 22
  · have hx := h10 (by rw [h22]; decide)
    rw [if_pos h22, if_pos h22]
    by_cases hn : fw 10 b = pu_I (b + 1)
    · rw [if_pos hn, if_pos hn]
      exact ⟨c9, cn, rfl, pa_wr0 hc hR⟩
    · rw [if_neg hn, if_neg hn, if_pos hx, hln _ (pv_ixn hx).2]
      obtain ⟨c9', cn', e1, e2⟩ := pa_wr1 (by omega) hc hR 22 (-1) (pu_I (ln (nn (fw 10 b)))) (-1)
      rw [e1]
      exact ⟨c9', cn', rfl, e2⟩
  rw [if_neg h22, if_neg h22, if_pos hbx, if_pos (hv h22), if_pos hbx]
  by_cases h24 : fw 8 b = 24
  · rw [if_pos h24, if_pos h24]
    obtain ⟨c9', cn', e1, e2⟩ := pa_wr1 (by omega) hc hR 24 (-1) (g 17 (nn (fw 9 b))) (-1)
    rw [e1]
    exact ⟨c9', cn', rfl, e2⟩
  have h23 : fw 8 b = 23 := by
    rcases hkd with h | h | h
    · exact absurd h h22
    · exact h
    · exact absurd h h24
  have hx10 := h10 h24
  have hx11 := h11 h23
  rw [if_neg h24, if_neg h24]
  by_cases hn : fw 11 b = pu_I (b + 1)
  · rw [if_pos hn, if_pos hn, if_pos hx10, hln _ (pv_ixn hx10).2]
    obtain ⟨c9', cn', e1, e2⟩ := pa_wr1 (by omega) hc hR 23 (-1) (g 17 (nn (fw 9 b))) (pu_I (ln (nn (fw 10 b))))
    rw [e1]
    exact ⟨c9', cn', rfl, e2⟩
  rw [if_neg hn, if_neg hn]
  by_cases hn1 : fw 10 b = pu_I (b + 1)
  · rw [if_pos hn1, if_pos hn1, if_pos hx11, hln _ (pv_ixn hx11).2]
    obtain ⟨c9', cn', e1, e2⟩ := pa_wr1 (by omega) hc hR 28 (-1) (g 17 (nn (fw 9 b))) (pu_I (ln (nn (fw 11 b))))
    rw [e1]
    exact ⟨c9', cn', rfl, e2⟩
  rw [if_neg hn1, if_neg hn1, if_pos hx10, hln _ (pv_ixn hx10).2]
  obtain ⟨c91, cn1, e1, e2⟩ := pa_wr1 (by omega) hc hR 23 (-1) (g 17 (nn (fw 9 b))) (pu_I (ln (nn (fw 10 b))))
  obtain ⟨c92, cn2, e3, e4⟩ := pa_wr1 (c9 := c91) (cn := cn1) (K := K + 1) (by omega) e2.1 e2.2.2.2 22 (-1) (pu_I (ln (nn (fw 11 b)))) (-1)
  refine ⟨c92, cn2, ?_, pa_wr_tr e2 e4⟩
  rw [e1, Option.bind_some]
  unfold fX0_writeEnd_G178_80
  rw [hbn, if_pos hx11, hln _ (pv_ixn hx11).2, e3]
  rfl
end WRE
