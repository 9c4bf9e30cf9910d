/-! pure side, the machine 2: texts, op by op -/
/-- the machine within a call of a text -/
def pm_TX (w : ST) (f c base i : Nat) (st : List Int32) (cl : Nat → Int32) (m : pu_M) (ar : List Int32) (t R : Nat) : Prop :=
  (w 0 8 = 1 ∧ w 0 9 = pu_I (c + 1) ∧ w 12 c = pu_I i ∧ w 11 c = pu_I f ∧ w 0 19 = pu_I (base + st.length) ∧ w 0 2 = pu_I t ∧ w 0 17 = pu_I R ∧ w 0 1 = 0) ∧ pm_sk (w 19) base st ∧ (∀ v, v < 320 → w 16 (c * 320 + v) = cl v) ∧ (∀ z, z < 16 → w 4 z = m z) ∧ (∀ z, z < ar.length → w 15 (c * 4 + z) = ar.getD z 0)
section TX
variable {w : ST} {f c base i : Nat} {st : List Int32} {cl : Nat → Int32} {m : pu_M} {ar : List Int32} {t R : Nat}
theorem pm_tpop {x : Int32} (h : pm_TX w f c base i (x :: st) cl m ar t R) (hb : base + st.length < 512) : ∃ w', fX3_pop w = some (x, w') ∧ pm_TX w' f c base i st cl m ar t R ∧ pm_fr c base R w w' := by
  obtain ⟨⟨h1, h2, h3, h4, h5, h6, h7, h8⟩, hs, hcl, hm, har⟩ := h
  have h5 : w 0 19 = pu_I (base + st.length + 1) := h5
  refine ⟨upw w 0 19 (pu_I (base + st.length)), ?_, ⟨⟨?_, ?_, ?_, ?_, ?_, ?_, ?_, ?_⟩, ?_, fun v hv => ?_, fun z hz => ?_, fun z hz => ?_⟩, ⟨fun r hr j hj => ?_, fun z hz => ?_, fun z hz => ?_, fun z hz => ?_, fun z hz => ?_, ?_, ?_⟩⟩
  · rw [pm_pop h5 hb, hs.1]
  · rw [pv_upw, if_neg fun h => absurd h.2 (by decide)]; exact h1
  · rw [pv_upw, if_neg fun h => absurd h.2 (by decide)]; exact h2
  · rw [pv_upw_n (by decide)]; exact h3
  · rw [pv_upw_n (by decide)]; exact h4
  · rw [pv_upw, if_pos ⟨rfl, rfl⟩]
  · rw [pv_upw, if_neg fun h => absurd h.2 (by decide)]; exact h6
  · rw [pv_upw, if_neg fun h => absurd h.2 (by decide)]; exact h7
  · rw [pv_upw, if_neg fun h => absurd h.2 (by decide)]; exact h8
  · rw [pv_upw_n (by decide)]; exact hs.2
  · rw [pv_upw_n (by decide)]; exact hcl v hv
  · rw [pv_upw_n (by decide)]; exact hm z hz
  · rw [pv_upw_n (by decide)]; exact har z hz
  · rw [pv_upw_n (by rcases hr with h | h | h | h <;> rw [h] <;> decide)]
  · rw [pv_upw_n (by decide)]
  · rw [pv_upw_n (by decide)]
  · rw [pv_upw_n (by decide)]
  · rw [pv_upw_n (by decide)]
  · rw [pv_upw, if_neg fun h => absurd h.2 (by decide)]
  · rw [pv_upw_n (by decide)]
theorem pm_tpush (h : pm_TX w f c base i st cl m ar t R) (hb : base + st.length < 512) (x : Int32) : ∃ w', fX3_push w x = some w' ∧ pm_TX w' f c base i (x :: st) cl m ar t R ∧ pm_fr c base R w w' := by
  obtain ⟨⟨h1, h2, h3, h4, h5, h6, h7, h8⟩, hs, hcl, hm, har⟩ := h
  have e0 : ∀ j, j ≠ 19 → upw (upw w 19 (base + st.length) x) 0 19 (pu_I (base + st.length + 1)) 0 j = w 0 j := fun j hj => by
    rw [pv_upw, if_neg fun h => hj h.2, pv_upw_n (by decide)]
  have er : ∀ r, r ≠ 0 → r ≠ 19 → upw (upw w 19 (base + st.length) x) 0 19 (pu_I (base + st.length + 1)) r = w r := fun r r0 r19 => by rw [pv_upw_n r0, pv_upw_n r19]
  refine ⟨_, pm_push h5 hb x, ⟨⟨by rw [e0 8 (by decide)]; exact h1, by rw [e0 9 (by decide)]; exact h2, by rw [er 12 (by decide) (by decide)]; exact h3, by rw [er 11 (by decide) (by decide)]; exact h4, ?_, by rw [e0 2 (by decide)]; exact h6, by rw [e0 17 (by decide)]; exact h7, by rw [e0 1 (by decide)]; exact h8⟩, ⟨?_, ?_⟩, fun v hv => by rw [er 16 (by decide) (by decide)]; exact hcl v hv, fun z hz => by rw [er 4 (by decide) (by decide)]; exact hm z hz, fun z hz => by rw [er 15 (by decide) (by decide)]; exact har z hz⟩,
    ⟨fun r hr j hj => by rw [er r (by rcases hr with h | h | h | h <;> rw [h] <;> decide) (by rcases hr with h | h | h | h <;> rw [h] <;> decide)], fun z hz => by rw [er 15 (by decide) (by decide)], fun z hz => by rw [er 16 (by decide) (by decide)], fun z hz => by rw [er 17 (by decide) (by decide)], fun z hz => ?_, e0 17 (by decide), er 8 (by decide) (by decide)⟩⟩
  · rw [pv_upw, if_pos ⟨rfl, rfl⟩]
    rfl
  · rw [pv_upw_n (by decide), pv_upw, if_pos ⟨rfl, rfl⟩]
  · refine pm_sk_e st (fun z h1 h2 => ?_) hs
    rw [pv_upw_n (by decide), pv_upw, if_neg fun h => by omega]
  · rw [pv_upw_n (by decide), pv_upw, if_neg fun h => by omega]
theorem pm_tset (h : pm_TX w f c base i st cl m ar t R) {u : Nat} (x : Int32) : pm_TX (upw w 16 (c * 320 + u) x) f c base i st (px_set cl u x) m ar t R ∧ pm_fr c base R w (upw w 16 (c * 320 + u) x) := by
  obtain ⟨⟨h1, h2, h3, h4, h5, h6, h7, h8⟩, hs, hcl, hm, har⟩ := h
  have er : ∀ r, r ≠ 16 → upw w 16 (c * 320 + u) x r = w r := fun r hr => pv_upw_n hr
  refine ⟨⟨⟨by rw [er 0 (by decide)]; exact h1, by rw [er 0 (by decide)]; exact h2, by rw [er 12 (by decide)]; exact h3, by rw [er 11 (by decide)]; exact h4, by rw [er 0 (by decide)]; exact h5, by rw [er 0 (by decide)]; exact h6, by rw [er 0 (by decide)]; exact h7, by rw [er 0 (by decide)]; exact h8⟩, by rw [er 19 (by decide)]; exact hs, fun v hv => ?_, by rw [er 4 (by decide)]; exact hm, by rw [er 15 (by decide)]; exact har⟩, ⟨fun r hr j hj => by rw [er r (by rcases hr with h | h | h | h <;> rw [h] <;> decide)], fun z hz => by rw [er 15 (by decide)], fun z hz => ?_, fun z hz => by rw [er 17 (by decide)], fun z hz => by rw [er 19 (by decide)], by rw [er 0 (by decide)], er 8 (by decide)⟩⟩
  · rw [pv_upw]
    unfold px_set
    by_cases e : v = u
    · rw [if_pos ⟨rfl, by rw [e]⟩, if_pos e]
    · rw [if_neg fun h => e (by omega), if_neg e]
      exact hcl v hv
  · rw [pv_upw, if_neg fun h => by omega]
theorem pm_tat (h : pm_TX w f c base i st cl m ar t R) (i' : Nat) : pm_TX (upw w 12 c (pu_I i')) f c base i' st cl m ar t R ∧ pm_fr c base R w (upw w 12 c (pu_I i')) := by
  obtain ⟨⟨h1, h2, h3, h4, h5, h6, h7, h8⟩, hs, hcl, hm, har⟩ := h
  have er : ∀ r, r ≠ 12 → upw w 12 c (pu_I i') r = w r := fun r hr => pv_upw_n hr
  refine ⟨⟨⟨by rw [er 0 (by decide)]; exact h1, by rw [er 0 (by decide)]; exact h2, by rw [pv_upw, if_pos ⟨rfl, rfl⟩], by rw [er 11 (by decide)]; exact h4, by rw [er 0 (by decide)]; exact h5, by rw [er 0 (by decide)]; exact h6, by rw [er 0 (by decide)]; exact h7, by rw [er 0 (by decide)]; exact h8⟩, by rw [er 19 (by decide)]; exact hs, by rw [er 16 (by decide)]; exact hcl, by rw [er 4 (by decide)]; exact hm, by rw [er 15 (by decide)]; exact har⟩, ⟨fun r hr j hj => ?_, fun z hz => by rw [er 15 (by decide)], fun z hz => by rw [er 16 (by decide)], fun z hz => by rw [er 17 (by decide)], fun z hz => by rw [er 19 (by decide)], by rw [er 0 (by decide)], er 8 (by decide)⟩⟩
  rw [pv_upw, if_neg fun h => by omega]
theorem pm_tmem (h : pm_TX w f c base i st cl m ar t R) (z0 : Nat) (y : Int32) : pm_TX (upw w 4 z0 y) f c base i st cl (fun z => if z = z0 then y else m z) ar t R ∧ pm_fr c base R w (upw w 4 z0 y) := by
  obtain ⟨⟨h1, h2, h3, h4, h5, h6, h7, h8⟩, hs, hcl, hm, har⟩ := h
  have er : ∀ r, r ≠ 4 → upw w 4 z0 y r = w r := fun r hr => pv_upw_n hr
  refine ⟨⟨⟨by rw [er 0 (by decide)]; exact h1, by rw [er 0 (by decide)]; exact h2, by rw [er 12 (by decide)]; exact h3, by rw [er 11 (by decide)]; exact h4, by rw [er 0 (by decide)]; exact h5, by rw [er 0 (by decide)]; exact h6, by rw [er 0 (by decide)]; exact h7, by rw [er 0 (by decide)]; exact h8⟩, by rw [er 19 (by decide)]; exact hs, by rw [er 16 (by decide)]; exact hcl, fun z hz => ?_, by rw [er 15 (by decide)]; exact har⟩, ⟨fun r hr j hj => by rw [er r (by rcases hr with h | h | h | h <;> rw [h] <;> decide)], fun z hz => by rw [er 15 (by decide)], fun z hz => by rw [er 16 (by decide)], fun z hz => by rw [er 17 (by decide)], fun z hz => by rw [er 19 (by decide)], by rw [er 0 (by decide)], er 8 (by decide)⟩⟩
  show upw w 4 z0 y 4 z = if z = z0 then y else m z
  rw [pv_upw]
  by_cases e : z = z0
  · rw [if_pos ⟨rfl, e⟩, if_pos e]
  · rw [if_neg fun h => e h.2, if_neg e]
    exact hm z hz
theorem pm_ttick (h : pm_TX w f c base i st cl m ar t R) (t' : Nat) : pm_TX (upw w 0 2 (pu_I t')) f c base i st cl m ar t' R ∧ pm_fr c base R w (upw w 0 2 (pu_I t')) := by
  obtain ⟨⟨h1, h2, h3, h4, h5, h6, h7, h8⟩, hs, hcl, hm, har⟩ := h
  have er : ∀ r, r ≠ 0 → upw w 0 2 (pu_I t') r = w r := fun r hr => pv_upw_n hr
  have e0 : ∀ j, j ≠ 2 → upw w 0 2 (pu_I t') 0 j = w 0 j := fun j hj => by rw [pv_upw, if_neg fun h => hj h.2]
  refine ⟨⟨⟨by rw [e0 8 (by decide)]; exact h1, by rw [e0 9 (by decide)]; exact h2, by rw [er 12 (by decide)]; exact h3, by rw [er 11 (by decide)]; exact h4, by rw [e0 19 (by decide)]; exact h5, by rw [pv_upw, if_pos ⟨rfl, rfl⟩], by rw [e0 17 (by decide)]; exact h7, by rw [e0 1 (by decide)]; exact h8⟩, by rw [er 19 (by decide)]; exact hs, by rw [er 16 (by decide)]; exact hcl, by rw [er 4 (by decide)]; exact hm, by rw [er 15 (by decide)]; exact har⟩, ⟨fun r hr j hj => by rw [er r (by rcases hr with h | h | h | h <;> rw [h] <;> decide)], fun z hz => by rw [er 15 (by decide)], fun z hz => by rw [er 16 (by decide)], fun z hz => by rw [er 17 (by decide)], fun z hz => by rw [er 19 (by decide)], e0 17 (by decide), er 8 (by decide)⟩⟩
/-- the machine stops: what is below stays -/
theorem pm_fr_stop (c base R : Nat) (w : ST) (o : Int32) : pm_fr c base R w (upw (upw w 0 0 o) 0 8 0) := by
  have er : ∀ r, r ≠ 0 → upw (upw w 0 0 o) 0 8 0 r = w r := fun r hr => by rw [pv_upw_n hr, pv_upw_n hr]
  refine ⟨fun r hr j hj => by rw [er r (by rcases hr with h | h | h | h <;> rw [h] <;> decide)], fun z hz => by rw [er 15 (by decide)], fun z hz => by rw [er 16 (by decide)], fun z hz => by rw [er 17 (by decide)], fun z hz => by rw [er 19 (by decide)], ?_, er 8 (by decide)⟩
  rw [pv_upw, if_neg fun h => absurd h.2 (by decide), pv_upw, if_neg fun h => absurd h.2 (by decide)]
end TX
theorem px_and15 (x : Int32) : ixb (x &&& 15) 16 = true := by
  have h1 : (x &&& 15).toBitVec = x.toBitVec &&& 15#32 := rfl
  have h2 : (x &&& 15).toBitVec.toNat ≤ 15 := by
    rw [h1, BitVec.toNat_and]
    exact Nat.and_le_right
  have h3 : (x &&& 15).toInt = ((x &&& 15).toBitVec.toNat : Int) := by
    show (x &&& 15).toBitVec.toInt = _
    exact BitVec.toInt_eq_toNat_of_lt (by omega)
  have h4 : x &&& 15 = pu_I (x &&& 15).toBitVec.toNat := Int32.toInt_inj.mp (by rw [h3, pu_ti (by omega)])
  rw [h4]
  exact (pu_ix (by omega)).mpr (by omega)
