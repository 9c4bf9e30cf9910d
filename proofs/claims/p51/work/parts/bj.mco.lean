/-! pure side, the machine 13: a line of code -/
/-- a line in shape: x9 the lines, N of them -/
def pm_ln (x9 : ST) (N fs na R i : Nat) : Prop :=
  (x9 2 i = 22 → ∃ j, j < N ∧ x9 4 i = pu_I j) ∧ ((x9 2 i = 23 ∨ x9 2 i = 28) → ixb (x9 4 i) 250 = true ∧ ∃ j, j < N ∧ x9 5 i = pu_I j) ∧ (x9 2 i = 24 → ixb (x9 4 i) 250 = true) ∧
  (x9 2 i = 25 → ixb (x9 3 i) 250 = true ∧ ixb (x9 4 i) 250 = true) ∧ (x9 2 i = 26 → ixb (x9 3 i) 250 = true ∧ ∃ s, s < R ∧ x9 4 i = pu_I s) ∧ (x9 2 i = 27 → ixb (x9 4 i) 250 = true ∧ ∃ s, s < R ∧ x9 5 i = pu_I s) ∧
  ((pu_gk (x9 2 i) = true → ixb (x9 3 i) 250 = true) ∧ ((pu_gk (x9 2 i) = true ∨ x9 2 i = 18 ∨ x9 2 i = 19) → (pu_ul (x9 2 i) = true → ixb (x9 4 i) 250 = true) ∧ (pu_ur (x9 2 i) = true → ixb (x9 5 i) 250 = true)) ∧ (x9 2 i = 20 → ixb (x9 4 i) fs = true) ∧ (x9 2 i = 21 → ixb (x9 4 i) na = true)) ∧
  (pu_kw (x9 2 i) ∨ x9 2 i = 22 ∨ x9 2 i = 23 ∨ x9 2 i = 28 ∨ x9 2 i = 24) ∧ (x9 2 i ≠ 22 → x9 2 i ≠ 24 → i + 1 < N)
/-- the machine within a call of code -/
def pm_CX (w : ST) (f c i : Nat) (e : pu_E) (m : pu_M) (q : List Int32) (z : Nat → Int32) (ar : List Int32) (t R : Nat) : Prop :=
  pm_BX w f c 0 (-1) (pu_I i) e m q ar t R ∧ ∀ v, v < R → w 17 (c * R + v) = z v
section CX
variable {w P : ST} {n17 n2 : Nat → Nat} {f c i : Nat} {e : pu_E} {m : pu_M} {q ar : List Int32} {z : Nat → Int32} {t R fs na N : Nat} {x9 : ST}
/-- a line that is no jump, no return, no call -/
theorem pm_cstp (hN : N ≤ n2 2 ∧ N ≤ n2 3 ∧ N ≤ n2 4 ∧ N ≤ n2 5 ∧ N < 50000) (hi : i < N) (hln : pm_ln x9 N fs na R i) (hc : c < 8) (hkd : pu_gk (x9 2 i) = true ∨ x9 2 i = 18 ∨ x9 2 i = 19) (h20 : x9 2 i ≠ 20) (hna : na ≤ ar.length) (har4 : ar.length ≤ 4) {i' : Nat} (hCX : pm_CX w f c i' e m q z ar t R) {call : pu_Call} :
    ∃ w', fX3_moveStep n17 w n2 x9 (pu_I c) (pu_I i) P = some w' ∧ pm_fr c 0 R w w' ∧ ∀ o, pu_stp call ar (x9 2 i) (x9 3 i) (x9 4 i) (x9 5 i) e m q = some o →
      (o = .inl (1, 0, m) ∧ w' 0 8 = 0 ∧ w' 0 0 = 1 ∧ w' 0 1 = 0 ∧ ∀ y, y < 16 → w' 4 y = m y) ∨ (∃ e' m' q', o = .inr (e', m', q') ∧ pm_CX w' f c i' e' m' q' z ar t R) := by
  obtain ⟨hBX, hz⟩ := hCX
  obtain ⟨hN2, hN3, hN4, hN5, hNN⟩ := hN
  obtain ⟨_, _, _, _, _, _, ⟨hgv, hrga, _, hpar⟩, _⟩ := hln
  have hrga := hrga hkd
  have hi31 : i < 2147483648 := by omega
  have hix : ∀ {k}, N ≤ k → ixb (pu_I i) k = true := fun h => (pu_ix hi31).mpr (by omega)
  have hcell : ∀ {x : Int32}, ixb x 250 = true → ixb (pu_I c * 320 + x) 2560 = true ∧ w 16 (nn (pu_I c * 320 + x)) = e x ∧ nn (pu_I c * 320 + x) = c * 320 + nn x := fun h => pm_bget hBX hc h
  have hset : ∀ (x y : Int32), ixb x 250 = true → pm_CX (upw w 16 (c * 320 + nn x) y) f c i' (pu_set e x y) m q z ar t R ∧ pm_fr c 0 R w (upw w 16 (c * 320 + nn x) y) := fun x y hx => by
    obtain ⟨v0, v1⟩ := pv_ixn hx
    have h9 := pm_bcell hBX v1 y
    rw [← pu_of v0] at h9
    exact ⟨⟨h9.1, fun v hv => by rw [pv_upw_n (by decide)]; exact hz v hv⟩, h9.2⟩
  unfold fX3_moveStep
  simp only [lt9]
  rw [if_pos (hix hN2), if_pos (hix hN4), pu_nn hi31]
  by_cases k0 : x9 2 i = 0
  · have hv := hgv (by rw [k0]; decide)
    obtain ⟨c1, c2, c3⟩ := hcell hv
    obtain ⟨g1, q1⟩ := hset (x9 3 i) (x9 4 i) hv
    refine ⟨_, ?_, q1, fun o ho => Or.inr ?_⟩
    · rw [if_pos k0, if_pos (hix hN3), if_pos c1, c3]
      rfl
    · unfold pu_stp at ho
      rw [if_pos k0] at ho
      exact ⟨_, _, _, (Option.some.inj ho).symm, g1⟩
  rw [if_neg k0]
  by_cases k21 : x9 2 i = 21
  · have hv := hgv (by rw [k21]; decide)
    obtain ⟨c1, c2, c3⟩ := hcell hv
    have hx4 := hpar k21
    obtain ⟨x0, x1⟩ := pv_ixn hx4
    have a1 : nn (x9 4 i) < ar.length := by omega
    have harg : fX3_argumentOf w (pu_I c) (x9 4 i) = some (ar.getD (nn (x9 4 i)) 0) := by
      unfold fX3_argumentOf
      have hm : pu_I c * 4 + x9 4 i = pu_I (c * 4 + nn (x9 4 i)) := by
        conv => lhs; rw [pu_of x0, show (4 : Int32) = pu_I 4 from rfl, pv_mul, pv_add]
      rw [hm, if_pos ((pu_ix (by omega)).mpr (by omega)), pu_nn (by omega), hBX.2.2.2.2 _ a1]
    obtain ⟨g1, q1⟩ := hset (x9 3 i) (ar.getD (nn (x9 4 i)) 0) hv
    refine ⟨_, ?_, q1, fun o ho => Or.inr ?_⟩
    · rw [if_pos k21, if_pos (hix hN3), harg, Option.bind_some, if_pos c1, c3]
      rfl
    · unfold pu_stp at ho
      rw [if_neg k0, if_pos k21] at ho
      exact ⟨_, _, _, (Option.some.inj ho).symm, g1⟩
  rw [if_neg k21, if_neg h20]
  by_cases k17 : x9 2 i = 17
  · have hv := hgv (by rw [k17]; decide)
    have hl := hrga.1 (by rw [k17]; decide)
    obtain ⟨c1, c2, c3⟩ := hcell hv
    obtain ⟨d1, d2, d3⟩ := hcell hl
    have h15 := px_and15 (e (x9 4 i))
    obtain ⟨g1, q1⟩ := hset (x9 3 i) (m (nn (e (x9 4 i) &&& 15))) hv
    have hrd : fX3_readWord w (e (x9 4 i)) = some (m (nn (e (x9 4 i) &&& 15))) := by
      unfold fX3_readWord
      rw [if_pos h15, hBX.2.2.2.1 _ (pv_ixn h15).2]
    refine ⟨_, ?_, q1, fun o ho => Or.inr ?_⟩
    · rw [if_pos k17, if_pos (hix hN3), if_pos d1, d2, hrd, Option.bind_some, if_pos c1, c3]
      rfl
    · unfold pu_stp at ho
      rw [if_neg k0, if_neg k21, if_neg h20, if_pos k17] at ho
      exact ⟨_, _, _, (Option.some.inj ho).symm, g1⟩
  rw [if_neg k17]
  by_cases k18 : x9 2 i = 18
  · have hl := hrga.1 (by rw [k18]; decide)
    have hr := hrga.2 (by rw [k18]; decide)
    obtain ⟨c1, c2, c3⟩ := hcell hl
    obtain ⟨d1, d2, d3⟩ := hcell hr
    have h15 := px_and15 (e (x9 4 i))
    obtain ⟨g1, q1⟩ := pm_bmem hBX (nn (e (x9 4 i) &&& 15)) (e (x9 5 i))
    refine ⟨_, ?_, q1, fun o ho => Or.inr ?_⟩
    · rw [if_pos k18, if_pos c1, if_pos (hix hN5), if_pos d1, c2, d2]
      unfold fX3_writeWord
      rw [if_pos h15]
      rfl
    · unfold pu_stp at ho
      rw [if_neg k0, if_neg k21, if_neg h20, if_neg k17, if_pos k18] at ho
      exact ⟨_, _, _, (Option.some.inj ho).symm, g1, fun v hv => by rw [pv_upw_n (by decide)]; exact hz v hv⟩
  rw [if_neg k18]
  by_cases k19 : x9 2 i = 19
  · have hl := hrga.1 (by rw [k19]; decide)
    obtain ⟨c1, c2, c3⟩ := hcell hl
    obtain ⟨w', r1, r2, r3, r4⟩ := pm_bpush hBX (e (x9 4 i))
    refine ⟨w', ?_, r3, fun o ho => Or.inr ?_⟩
    · rw [if_pos k19, if_pos c1, c2, r1]
      rfl
    · unfold pu_stp at ho
      rw [if_neg k0, if_neg k21, if_neg h20, if_neg k17, if_neg k18, if_pos k19] at ho
      exact ⟨_, _, _, (Option.some.inj ho).symm, r2, fun v hv => by rw [r4]; exact hz v hv⟩
  rw [if_neg k19]
  have hop : pu_isop (x9 2 i) = true := by
    rcases hkd with h | h | h
    · exact pm_gk_op h k0 k17 h20 k21
    · exact absurd h k18
    · exact absurd h k19
  have hv := hgv (pu_op_gk hop)
  have hu := pu_op_u hop
  have hl := hrga.1 hu.1
  have hr := hrga.2 hu.2
  obtain ⟨c1, c2, c3⟩ := hcell hv
  obtain ⟨d1, d2, d3⟩ := hcell hl
  obtain ⟨b1, b2, b3⟩ := hcell hr
  have hst : ∀ o, pu_stp call ar (x9 2 i) (x9 3 i) (x9 4 i) (x9 5 i) e m q = some o → (if pu_fail (x9 2 i) (e (x9 5 i)) = true then some (.inl (1, 0, m)) else some (.inr (pu_set e (x9 3 i) (pu_cmp (x9 2 i) (e (x9 4 i)) (e (x9 5 i))), m, q))) = some o := fun o ho => by
    unfold pu_stp at ho
    rw [if_neg k0, if_neg k21, if_neg h20, if_neg k17, if_neg k18, if_neg k19] at ho
    exact ho
  have hope := pm_operate w (x9 2 i) (e (x9 4 i)) (e (x9 5 i))
  by_cases hfl9 : pu_fail (x9 2 i) (e (x9 5 i)) = true
  · rw [if_pos hfl9] at hope
    refine ⟨upw (upw (upw w 0 0 1) 0 8 0) 16 (c * 320 + nn (x9 3 i)) 0, ?_, ?_, fun o ho => Or.inl ?_⟩
    · rw [if_pos (hix hN3), if_pos d1, if_pos (hix hN5), if_pos b1, d2, b2, hope, Option.bind_some, if_pos c1, c3]
      rfl
    · refine pm_fr_tr (pm_fr_stop c 0 R w 1) ⟨fun r hr j hj => by rw [pv_upw_n (by rcases hr with h | h | h | h <;> rw [h] <;> decide)], fun z hz => by rw [pv_upw_n (by decide)], fun z hz => by rw [pv_upw, if_neg fun h => by omega], fun z hz => by rw [pv_upw_n (by decide)], fun z hz => absurd hz (Nat.not_lt_zero z), by rw [pv_upw_n (by decide)], by rw [pv_upw_n (by decide)]⟩
    · have h9 := hst o ho
      rw [if_pos hfl9] at h9
      refine ⟨(Option.some.inj h9).symm, ?_, ?_, ?_, fun z hz => ?_⟩
      · rw [pv_upw_n (by decide), pv_upw, if_pos ⟨rfl, rfl⟩]
      · rw [pv_upw_n (by decide), pv_upw, if_neg fun h => absurd h.2 (by decide), pv_upw, if_pos ⟨rfl, rfl⟩]
      · rw [pv_upw_n (by decide), pv_upw, if_neg fun h => absurd h.2 (by decide), pv_upw, if_neg fun h => absurd h.2 (by decide)]
        exact hBX.1.2.2.2.2.2.2.2.2.2
      · rw [pv_upw_n (by decide), pv_upw_n (by decide), pv_upw_n (by decide)]
        exact hBX.2.2.2.1 z hz
  · rw [if_neg hfl9] at hope
    obtain ⟨g1, q1⟩ := hset (x9 3 i) (pu_cmp (x9 2 i) (e (x9 4 i)) (e (x9 5 i))) hv
    refine ⟨_, ?_, q1, fun o ho => Or.inr ?_⟩
    · rw [if_pos (hix hN3), if_pos d1, if_pos (hix hN5), if_pos b1, d2, b2, hope, Option.bind_some, if_pos c1, c3]
      rfl
    · have h9 := hst o ho
      rw [if_neg hfl9] at h9
      exact ⟨_, _, _, (Option.some.inj h9).symm, g1⟩
end CX
