/-! pure side, the machine 6: blocks, what a machine holds -/
/-- the machine within a call of blocks -/
def pm_BX (w : ST) (f c b : Nat) (p9 at0 : Int32) (e : pu_E) (m : pu_M) (q ar : List Int32) (t R : Nat) : Prop :=
  (w 0 8 = 1 ∧ w 0 9 = pu_I (c + 1) ∧ w 12 c = at0 ∧ w 11 c = pu_I f ∧ w 13 c = pu_I b ∧ w 14 c = p9 ∧ w 0 19 = pu_I (min q.length 512) ∧ w 0 2 = pu_I t ∧ w 0 17 = pu_I R ∧ w 0 1 = 0) ∧ (∀ z, z < q.length → z < 512 → w 19 z = q.getD z 0) ∧ (∀ v, v < 250 → w 16 (c * 320 + v) = e (pu_I v)) ∧ (∀ z, z < 16 → w 4 z = m z) ∧ (∀ z, z < ar.length → w 15 (c * 4 + z) = ar.getD z 0)
section BX
variable {w : ST} {f c b : Nat} {p9 at0 : Int32} {e : pu_E} {m : pu_M} {q ar : List Int32} {t R : Nat}
theorem pm_bcell (h : pm_BX w f c b p9 at0 e m q ar t R) {u : Nat} (hu : u < 250) (x : Int32) : pm_BX (upw w 16 (c * 320 + u) x) f c b p9 at0 (pu_set e (pu_I u) x) m q ar t R ∧ pm_fr c 0 R w (upw w 16 (c * 320 + u) x) := by
  obtain ⟨⟨h1, h2, h3, h4, h5, h6, h7, h8, h9, h10⟩, hq, hcl, hm, har⟩ := h
  have er : ∀ r, r ≠ 16 → upw w 16 (c * 320 + u) x r = w r := fun r hr => pv_upw_n hr
  refine ⟨⟨⟨by rw [er 0 (by decide)]; exact h1, by rw [er 0 (by decide)]; exact h2, by rw [er 12 (by decide)]; exact h3, by rw [er 11 (by decide)]; exact h4, by rw [er 13 (by decide)]; exact h5, by rw [er 14 (by decide)]; exact h6, by rw [er 0 (by decide)]; exact h7, by rw [er 0 (by decide)]; exact h8, by rw [er 0 (by decide)]; exact h9, by rw [er 0 (by decide)]; exact h10⟩, by rw [er 19 (by decide)]; exact hq, fun v hv => ?_, by rw [er 4 (by decide)]; exact hm, by rw [er 15 (by decide)]; exact har⟩, ⟨fun r hr j hj => by rw [er r (by rcases hr with h | h | h | h <;> rw [h] <;> decide)], fun z hz => by rw [er 15 (by decide)], fun z hz => ?_, fun z hz => by rw [er 17 (by decide)], fun z hz => by rw [er 19 (by decide)], by rw [er 0 (by decide)], er 8 (by decide)⟩⟩
  · rw [pv_upw]
    by_cases e9 : v = u
    · rw [if_pos ⟨rfl, by rw [e9]⟩, e9, pu_set_s]
    · rw [if_neg fun h => e9 (by omega), pu_set_n (fun h => e9 (pu_inj (by omega) (by omega) h))]
      exact hcl v hv
  · rw [pv_upw, if_neg fun h => by omega]
theorem pm_bat (h : pm_BX w f c b p9 at0 e m q ar t R) (x : Int32) : pm_BX (upw w 12 c x) f c b p9 x e m q ar t R ∧ pm_fr c 0 R w (upw w 12 c x) := by
  obtain ⟨⟨h1, h2, h3, h4, h5, h6, h7, h8, h9, h10⟩, hq, hcl, hm, har⟩ := h
  have er : ∀ r, r ≠ 12 → upw w 12 c x r = w r := fun r hr => pv_upw_n hr
  refine ⟨⟨⟨by rw [er 0 (by decide)]; exact h1, by rw [er 0 (by decide)]; exact h2, by rw [pv_upw, if_pos ⟨rfl, rfl⟩], by rw [er 11 (by decide)]; exact h4, by rw [er 13 (by decide)]; exact h5, by rw [er 14 (by decide)]; exact h6, by rw [er 0 (by decide)]; exact h7, by rw [er 0 (by decide)]; exact h8, by rw [er 0 (by decide)]; exact h9, by rw [er 0 (by decide)]; exact h10⟩, by rw [er 19 (by decide)]; exact hq, by rw [er 16 (by decide)]; exact hcl, by rw [er 4 (by decide)]; exact hm, by rw [er 15 (by decide)]; exact har⟩, ⟨fun r hr j hj => ?_, fun z hz => by rw [er 15 (by decide)], fun z hz => by rw [er 16 (by decide)], fun z hz => by rw [er 17 (by decide)], fun z hz => by rw [er 19 (by decide)], by rw [er 0 (by decide)], er 8 (by decide)⟩⟩
  rw [pv_upw, if_neg fun h => by omega]
theorem pm_bmem (h : pm_BX w f c b p9 at0 e m q ar t R) (z0 : Nat) (y : Int32) : pm_BX (upw w 4 z0 y) f c b p9 at0 e (fun z => if z = z0 then y else m z) q ar t R ∧ pm_fr c 0 R w (upw w 4 z0 y) := by
  obtain ⟨⟨h1, h2, h3, h4, h5, h6, h7, h8, h9, h10⟩, hq, hcl, hm, har⟩ := h
  have er : ∀ r, r ≠ 4 → upw w 4 z0 y r = w r := fun r hr => pv_upw_n hr
  refine ⟨⟨⟨by rw [er 0 (by decide)]; exact h1, by rw [er 0 (by decide)]; exact h2, by rw [er 12 (by decide)]; exact h3, by rw [er 11 (by decide)]; exact h4, by rw [er 13 (by decide)]; exact h5, by rw [er 14 (by decide)]; exact h6, by rw [er 0 (by decide)]; exact h7, by rw [er 0 (by decide)]; exact h8, by rw [er 0 (by decide)]; exact h9, by rw [er 0 (by decide)]; exact h10⟩, by rw [er 19 (by decide)]; exact hq, by rw [er 16 (by decide)]; exact hcl, fun z hz => ?_, by rw [er 15 (by decide)]; exact har⟩, ⟨fun r hr j hj => by rw [er r (by rcases hr with h | h | h | h <;> rw [h] <;> decide)], fun z hz => by rw [er 15 (by decide)], fun z hz => by rw [er 16 (by decide)], fun z hz => by rw [er 17 (by decide)], fun z hz => by rw [er 19 (by decide)], by rw [er 0 (by decide)], er 8 (by decide)⟩⟩
  show upw w 4 z0 y 4 z = if z = z0 then y else m z
  rw [pv_upw]
  by_cases e : z = z0
  · rw [if_pos ⟨rfl, e⟩, if_pos e]
  · rw [if_neg fun h => e h.2, if_neg e]
    exact hm z hz
theorem pm_btick (h : pm_BX w f c b p9 at0 e m q ar t R) (t' : Nat) : pm_BX (upw w 0 2 (pu_I t')) f c b p9 at0 e m q ar t' R ∧ pm_fr c 0 R w (upw w 0 2 (pu_I t')) := by
  obtain ⟨⟨h1, h2, h3, h4, h5, h6, h7, h8, h9, h10⟩, hq, hcl, hm, har⟩ := h
  have er : ∀ r, r ≠ 0 → upw w 0 2 (pu_I t') r = w r := fun r hr => pv_upw_n hr
  have e0 : ∀ j, j ≠ 2 → upw w 0 2 (pu_I t') 0 j = w 0 j := fun j hj => by rw [pv_upw, if_neg fun h => hj h.2]
  exact ⟨⟨⟨by rw [e0 8 (by decide)]; exact h1, by rw [e0 9 (by decide)]; exact h2, by rw [er 12 (by decide)]; exact h3, by rw [er 11 (by decide)]; exact h4, by rw [er 13 (by decide)]; exact h5, by rw [er 14 (by decide)]; exact h6, by rw [e0 19 (by decide)]; exact h7, by rw [pv_upw, if_pos ⟨rfl, rfl⟩], by rw [e0 17 (by decide)]; exact h9, by rw [e0 1 (by decide)]; exact h10⟩, by rw [er 19 (by decide)]; exact hq, by rw [er 16 (by decide)]; exact hcl, by rw [er 4 (by decide)]; exact hm, by rw [er 15 (by decide)]; exact har⟩, ⟨fun r hr j hj => by rw [er r (by rcases hr with h | h | h | h <;> rw [h] <;> decide)], fun z hz => by rw [er 15 (by decide)], fun z hz => by rw [er 16 (by decide)], fun z hz => by rw [er 17 (by decide)], fun z hz => by rw [er 19 (by decide)], e0 17 (by decide), er 8 (by decide)⟩⟩
theorem pm_bpush (h : pm_BX w f c b p9 at0 e m q ar t R) (x : Int32) : ∃ w', fX3_push w x = some w' ∧ pm_BX w' f c b p9 at0 e m (q ++ [x]) ar t R ∧ pm_fr c 0 R w w' ∧ w' 17 = w 17 := by
  obtain ⟨⟨h1, h2, h3, h4, h5, h6, h7, h8, h9, h10⟩, hq, hcl, hm, har⟩ := h
  have hql : (q ++ [x]).length = q.length + 1 := by rw [List.length_append]; rfl
  by_cases hb : q.length < 512
  · rw [show min q.length 512 = q.length by omega] at h7
    have e0 : ∀ j, j ≠ 19 → upw (upw w 19 q.length x) 0 19 (pu_I (q.length + 1)) 0 j = w 0 j := fun j hj => by
      rw [pv_upw, if_neg fun h => hj h.2, pv_upw_n (by decide)]
    have er : ∀ r, r ≠ 0 → r ≠ 19 → upw (upw w 19 q.length x) 0 19 (pu_I (q.length + 1)) r = w r := fun r r0 r19 => by rw [pv_upw_n r0, pv_upw_n r19]
    refine ⟨_, pm_push h7 hb x, ⟨⟨by rw [e0 8 (by decide)]; exact h1, by rw [e0 9 (by decide)]; exact h2, by rw [er 12 (by decide) (by decide)]; exact h3, by rw [er 11 (by decide) (by decide)]; exact h4, by rw [er 13 (by decide) (by decide)]; exact h5, by rw [er 14 (by decide) (by decide)]; exact h6, ?_, by rw [e0 2 (by decide)]; exact h8, by rw [e0 17 (by decide)]; exact h9, by rw [e0 1 (by decide)]; exact h10⟩, fun z hz h512 => ?_, fun v hv => by rw [er 16 (by decide) (by decide)]; exact hcl v hv, fun z hz => by rw [er 4 (by decide) (by decide)]; exact hm z hz, fun z hz => by rw [er 15 (by decide) (by decide)]; exact har z hz⟩,
      ⟨fun r hr j hj => by rw [er r (by rcases hr with h | h | h | h <;> rw [h] <;> decide) (by rcases hr with h | h | h | h <;> rw [h] <;> decide)], fun z hz => by rw [er 15 (by decide) (by decide)], fun z hz => by rw [er 16 (by decide) (by decide)], fun z hz => by rw [er 17 (by decide) (by decide)], fun z hz => absurd hz (Nat.not_lt_zero z), e0 17 (by decide), er 8 (by decide) (by decide)⟩, er 17 (by decide) (by decide)⟩
    · rw [pv_upw, if_pos ⟨rfl, rfl⟩, hql]
      congr 1
      omega
    · rw [hql] at hz
      rw [pv_upw_n (by decide), pv_upw]
      by_cases e : z = q.length
      · rw [if_pos ⟨rfl, e⟩, e, List.getD_eq_getElem?_getD, List.getElem?_append_right (Nat.le_refl _), Nat.sub_self]
        rfl
      · rw [if_neg fun h => e h.2, hq z (by omega) h512, List.getD_eq_getElem?_getD, List.getD_eq_getElem?_getD, List.getElem?_append_left (by omega)]
  · refine ⟨w, ?_, ⟨⟨h1, h2, h3, h4, h5, h6, ?_, h8, h9, h10⟩, fun z hz h512 => ?_, hcl, hm, har⟩, pm_fr_rf c 0 R w, rfl⟩
    · unfold fX3_push
      rw [h7, show min q.length 512 = 512 by omega, if_pos (show (512 : Int32) ≤ pu_I 512 by decide)]
      rfl
    · rw [h7, hql]
      congr 1
      omega
    · rw [hq z (by omega) h512, List.getD_eq_getElem?_getD, List.getD_eq_getElem?_getD, List.getElem?_append_left (by omega)]
theorem pm_b19 (h : pm_BX w f c b p9 at0 e m [] ar t R) (z0 : Nat) (x : Int32) : pm_BX (upw w 19 z0 x) f c b p9 at0 e m [] ar t R ∧ pm_fr c 0 R w (upw w 19 z0 x) := by
  obtain ⟨⟨h1, h2, h3, h4, h5, h6, h7, h8, h9, h10⟩, hq, hcl, hm, har⟩ := h
  have er : ∀ r, r ≠ 19 → upw w 19 z0 x r = w r := fun r hr => pv_upw_n hr
  exact ⟨⟨⟨by rw [er 0 (by decide)]; exact h1, by rw [er 0 (by decide)]; exact h2, by rw [er 12 (by decide)]; exact h3, by rw [er 11 (by decide)]; exact h4, by rw [er 13 (by decide)]; exact h5, by rw [er 14 (by decide)]; exact h6, by rw [er 0 (by decide)]; exact h7, by rw [er 0 (by decide)]; exact h8, by rw [er 0 (by decide)]; exact h9, by rw [er 0 (by decide)]; exact h10⟩, fun z hz _ => absurd hz (Nat.not_lt_zero z), by rw [er 16 (by decide)]; exact hcl, by rw [er 4 (by decide)]; exact hm, by rw [er 15 (by decide)]; exact har⟩, ⟨fun r hr j hj => by rw [er r (by rcases hr with h | h | h | h <;> rw [h] <;> decide)], fun z hz => by rw [er 15 (by decide)], fun z hz => by rw [er 16 (by decide)], fun z hz => by rw [er 17 (by decide)], fun z hz => absurd hz (Nat.not_lt_zero z), by rw [er 0 (by decide)], er 8 (by decide)⟩⟩
/-- one tick -/
theorem pm_btk (h : pm_BX w f c b p9 at0 e m q ar t R) (ht : t ≤ 5000) : (t + 1 ≤ 5000 ∧ fX3_tick w 1 = some (1, upw w 0 2 (pu_I (t + 1)))) ∨ (¬ t + 1 ≤ 5000 ∧ ∃ w', fX3_tick w 1 = some (0, w') ∧ w' 0 8 = 0 ∧ w' 0 0 = 2 ∧ pm_fr c 0 R w w') := by
  have h9 := pm_tick (w := w) (t := t) (k := 1) h.1.2.2.2.2.2.2.2.1 (by omega)
  by_cases hle : t + 1 ≤ 5000
  · rw [if_pos hle] at h9
    exact Or.inl ⟨hle, h9⟩
  · rw [if_neg hle] at h9
    refine Or.inr ⟨hle, _, h9, by rw [pv_upw, if_pos ⟨rfl, rfl⟩], by rw [pv_upw, if_neg fun h => absurd h.2 (by decide), pv_upw, if_pos ⟨rfl, rfl⟩], pm_fr_tr (pm_btick h 5000).2 (pm_fr_stop c 0 R _ 2)⟩
/-- a cell -/
theorem pm_bget (h : pm_BX w f c b p9 at0 e m q ar t R) (hc : c < 8) {x : Int32} (hx : ixb x 250 = true) : ixb (pu_I c * 320 + x) 2560 = true ∧ w 16 (nn (pu_I c * 320 + x)) = e x ∧ nn (pu_I c * 320 + x) = c * 320 + nn x := by
  obtain ⟨h0, h1⟩ := pv_ixn hx
  have e1 : pu_I c * 320 + x = pu_I (c * 320 + nn x) := by
    conv => lhs; rw [pu_of h0, show (320 : Int32) = pu_I 320 from rfl, pv_mul, pv_add]
  have h31 : c * 320 + nn x < 2147483648 := by omega
  rw [e1]
  refine ⟨(pu_ix h31).mpr (by omega), ?_, pu_nn h31⟩
  rw [pu_nn h31, h.2.2.1 (nn x) h1, ← pu_of h0]
end BX
