/-! pure side, the maker 8: the blocks by their new numbers -/
/-- a row's block of a piece -/
def pt_nbk (K : Nat) (F G : Nat → Int32) (w : ST) (po : Nat → Int32) (B : Nat) : Prop :=
  po 0 = pu_I 0 ∧
  (∀ j p, j < B → p < K → po j = pu_I p → w 8 j = pt_ke F G p ∧ (F p < 0 → w 10 j < 0) ∧ (G p < 0 → w 11 j < 0) ∧
    (∀ q, q < K → F p = pu_I q → ∃ t, t < B ∧ po t = pu_I q ∧ (w 10 j = pu_I t ∨ ∃ s, s < B ∧ po s = -1 ∧ w 10 j = pu_I s ∧ w 10 s = pu_I t)) ∧
    (∀ q, q < K → G p = pu_I q → ∃ t, t < B ∧ po t = pu_I q ∧ (w 11 j = pu_I t ∨ ∃ s, s < B ∧ po s = -1 ∧ w 11 j = pu_I s ∧ w 10 s = pu_I t))) ∧
  (∀ j, j < B → (∃ p, p < K ∧ po j = pu_I p) ∨ (po j = -1 ∧ w 8 j = 22 ∧ w 11 j < 0 ∧ ∃ t p, t < B ∧ p < K ∧ po t = pu_I p ∧ w 10 j = pu_I t)) ∧
  (∀ j j' p, j < B → j' < B → p < K → po j = pu_I p → po j' = pu_I p → j = j') ∧
  (∀ j c, j < B → c < B → w 8 j = 23 → pv_eg w j c → ∀ q, q < B → pv_eg w q c → q = j)
section NB
variable {K : Nat} {w0 v0 v mw w' : ST} {fl Fi : List Nat} {wy rn od : Nat → Nat} {c : Nat}
/-- a way of a laid block, by cases -/
theorem pt_way (hb : pt_lb K w0 fl wy) (hC : fl.length ≤ c) (hv : pt_lv w0 fl wy v0 (fun b _ => b < fl.length) fl.length c v) {r b p : Nat} (hr : r = 10 ∨ r = 11) (hbC : b < fl.length) (hp : fl[b]? = some p) :
    (w0 (r - 1) p < 0 ∧ v r b = -1) ∨ ∃ q t, q < K ∧ w0 (r - 1) p = pu_I q ∧ fl[t]? = some q ∧ ((pt_s1 (w0 (r - 1)) (w0 10) wy p ≠ 1 ∧ v r b = pu_I t) ∨ (pt_s1 (w0 (r - 1)) (w0 10) wy p = 1 ∧ ∃ s, fl.length ≤ s ∧ s < c ∧ v r b = pu_I s ∧ v 10 s = pu_I t)) := by
  obtain ⟨⟨hK0, hK, hc5⟩, ⟨hnd, hlt, h00⟩, hF, hG, h14, h11, hwy, hcl⟩ := id hb
  have hpK := hlt p (List.mem_iff_getElem?.mpr ⟨b, hp⟩)
  obtain ⟨y1, y2, y3⟩ := hv.2.2.1 b p hbC hp
  have key : pt_lr w0 fl wy c v (b < fl.length) r b p := by
    rcases hr with rfl | rfl
    · exact y2
    · exact y3
  have hfg : w0 (r - 1) p < 0 ∨ ∃ q : Nat, q < K ∧ w0 (r - 1) p = pu_I q := by
    rcases hr with rfl | rfl
    · exact hF p hpK
    · exact hG p hpK
  rcases hfg with h | ⟨q, q1, q2⟩
  · exact Or.inl ⟨h, key.1 h⟩
  · obtain ⟨t, t1, t2, t3⟩ := key.2 q (by omega) q2
    refine Or.inr ⟨q, t, q1, q2, t1, ?_⟩
    by_cases hs : pt_s1 (w0 (r - 1)) (w0 10) wy p = 1
    · exact Or.inr ⟨hs, t3 ⟨hbC, hs⟩⟩
    · exact Or.inl ⟨hs, t2 fun h => hs h.2⟩
theorem pt_wy_two {F G : Nat → Int32} {l : List Nat} {p p' z : Nat} (hp : p ∈ l) (hp' : p' ∈ l) (hne : p ≠ p') (h : F p = pu_I z ∨ G p = pu_I z) (h' : F p' = pu_I z ∨ G p' = pu_I z) : 2 ≤ pt_wy F G l z := by
  have h2 : pt_sum (fun x => (if F x = pu_I z then 1 else 0) + (if G x = pu_I z then 1 else 0)) [p, p'] ≤ pt_wy F G l z := by
    rw [pt_wy_sum]
    refine pt_sum_le _ _ _ (by simp [hne]) fun x hx => ?_
    rcases List.mem_cons.mp hx with rfl | hx
    · exact hp
    · rw [List.mem_singleton.mp hx]; exact hp'
  have one : ∀ x, (F x = pu_I z ∨ G x = pu_I z) → 1 ≤ (if F x = pu_I z then 1 else 0) + (if G x = pu_I z then 1 else 0 : Nat) := by
    rintro x (h | h)
    · rw [if_pos h]; omega
    · rw [if_pos h]; omega
  have h3 := one p h
  have h4 := one p' h'
  have h5 : pt_sum (fun x => (if F x = pu_I z then 1 else 0) + (if G x = pu_I z then 1 else 0)) [p, p'] = ((if F p = pu_I z then 1 else 0) + (if G p = pu_I z then 1 else 0)) + (((if F p' = pu_I z then 1 else 0) + (if G p' = pu_I z then 1 else 0)) + 0) := rfl
  omega
theorem pv_lay_sv (hb : pt_lb K w0 fl wy) (hC : fl.length ≤ c) (hc : c ≤ 60) (hv : pt_lv w0 fl wy v0 (fun b _ => b < fl.length) fl.length c v) : pv_sv c v := by
  intro b hbc
  by_cases hbC : b < fl.length
  · obtain ⟨p, hp⟩ : ∃ p, fl[b]? = some p := ⟨fl[b], List.getElem?_eq_some_iff.mpr ⟨hbC, rfl⟩⟩
    have key : ∀ r, r = 10 ∨ r = 11 → v r b < 0 ∨ ∃ x, x < c ∧ v r b = pu_I x := by
      intro r hr
      rcases pt_way hb hC hv hr hbC hp with ⟨_, h⟩ | ⟨q, t, _, _, t1, ⟨_, h⟩ | ⟨_, s, _, s2, h, _⟩⟩
      · exact Or.inl (by rw [h]; decide)
      · exact Or.inr ⟨t, by have := (List.getElem?_eq_some_iff.mp t1).1; omega, h⟩
      · exact Or.inr ⟨s, s2, h⟩
    exact ⟨key 10 (Or.inl rfl), key 11 (Or.inr rfl)⟩
  · obtain ⟨_, h11, ⟨t, t1, t2⟩, _⟩ := hv.2.2.2 b (by omega) hbc
    exact ⟨Or.inr ⟨t, by omega, t2⟩, Or.inl (by rw [h11]; decide)⟩
/-- where a fork leads no other way leads: while by the old numbers -/
theorem pv_lay_one (hb : pt_lb K w0 fl wy) (hwyd : wy = pt_wy (w0 9) (w0 10) fl) (hC : fl.length ≤ c) (hc : c ≤ 60) (hv : pt_lv w0 fl wy v0 (fun b _ => b < fl.length) fl.length c v)
    {b x q : Nat} (hbc : b < c) (hqc : q < c) (hxc : x < c) (h23 : v 8 b = 23) (he : pv_eg v b x) (hq : pv_eg v q x) (hown : fl.length ≤ q → ∃ o, o < c ∧ pv_eg v o q) : q = b := by
  obtain ⟨⟨hK0, hK, hc5⟩, ⟨hnd, hlt, h00⟩, hF, hG, h14, h11, hwy, hcl⟩ := id hb
  have hbC : b < fl.length := by
    refine Classical.byContradiction fun h => ?_
    have h9 := (hv.2.2.2 b (by omega) hbc).1
    rw [h9] at h23
    exact absurd h23 (by decide)
  obtain ⟨p, hp⟩ : ∃ p, fl[b]? = some p := ⟨fl[b], List.getElem?_eq_some_iff.mpr ⟨hbC, rfl⟩⟩
  have hpm := List.mem_iff_getElem?.mpr ⟨b, hp⟩
  have hfk : ¬ w0 10 p < 0 := fun h => by
    have h8 := (hv.2.2.1 b p hbC hp).1
    rw [h23] at h8
    unfold pt_ke at h8
    rw [if_pos h] at h8
    by_cases h9 : w0 9 p < 0
    · rw [if_pos h9] at h8; exact absurd h8 (by decide)
    · rw [if_neg h9] at h8; exact absurd h8 (by decide)
  have hrw : ∀ y z, pv_eg v y z → ∃ r, (r = 10 ∨ r = 11) ∧ v r y = pu_I z := by
    rintro y z (h | h)
    · exact ⟨10, Or.inl rfl, h⟩
    · exact ⟨11, Or.inr rfl, h⟩
  obtain ⟨r, hr, hrx⟩ := hrw b x he
  obtain ⟨r', hr', hrx'⟩ := hrw q x hq
  have hpl : ∀ r z, (r = 10 ∨ r = 11) → ∀ y, w0 (r - 1) y = pu_I z → w0 9 y = pu_I z ∨ w0 10 y = pu_I z := by
    rintro r z (rfl | rfl) y h
    · exact Or.inl h
    · exact Or.inr h
  rcases pt_way hb hC hv hr hbC hp with ⟨_, h⟩ | ⟨z, t, z1, z2, t1, ⟨s0, h⟩ | ⟨_, s, s1, s2, h, _⟩⟩
  · rw [h] at hrx
    have := pu_ge (k := x) (by omega)
    rw [← hrx] at this
    exact absurd (by decide : (-1 : Int32) < 0) this
  · -- straight on
    have htC := (List.getElem?_eq_some_iff.mp t1).1
    have hxt : x = t := pu_inj (by omega) (by omega) (hrx.symm.trans h)
    have hlt2 : ¬ 2 ≤ wy z := by
      intro h2
      refine s0 ?_
      unfold pt_s1
      rw [if_pos ⟨hfk, by rw [z2]; exact pu_ge (by omega), by rw [z2, pu_nn (by omega)]; exact h2⟩]
    by_cases hqC : q < fl.length
    · obtain ⟨p', hp'⟩ : ∃ p', fl[q]? = some p' := ⟨fl[q], List.getElem?_eq_some_iff.mpr ⟨hqC, rfl⟩⟩
      rcases pt_way hb hC hv hr' hqC hp' with ⟨_, h'⟩ | ⟨z', t', z1', z2', t1', ⟨_, h'⟩ | ⟨_, s', s1', s2', h', _⟩⟩
      · rw [h'] at hrx'
        have := pu_ge (k := x) (by omega)
        rw [← hrx'] at this
        exact absurd (by decide : (-1 : Int32) < 0) this
      · have htC' := (List.getElem?_eq_some_iff.mp t1').1
        have htt : t' = t := by rw [← hxt]; exact (pu_inj (by omega) (by omega) (hrx'.symm.trans h')).symm
        rw [htt, t1] at t1'
        injection t1' with hzz
        refine Classical.byContradiction fun hqb => hlt2 ?_
        have hpp : p ≠ p' := by
          intro e
          rw [← e] at hp'
          exact hqb (pu_inj (by omega) (by omega) ((h14 q p hp').2.symm.trans (h14 b p hp).2))
        rw [hwyd]
        exact pt_wy_two hpm (List.mem_iff_getElem?.mpr ⟨q, hp'⟩) hpp (hpl r z hr p z2) (hpl r' z hr' p' (by rw [hzz]; exact z2'))
      · have := pu_inj (by omega) (by omega) (hrx'.symm.trans h')
        omega
    · exfalso
      obtain ⟨o, o1, o2⟩ := hown (by omega)
      obtain ⟨r2, hr2, ho⟩ := hrw o q o2
      obtain ⟨_, g11, ⟨t3, g1, g2⟩, _⟩ := hv.2.2.2 q (by omega) hqc
      have hxq : v 10 q = pu_I x := by
        rcases hq with h | h
        · exact h
        · rw [g11] at h
          have := pu_ge (k := x) (by omega)
          rw [← h] at this
          exact absurd (by decide : (-1 : Int32) < 0) this
      have hoC : o < fl.length := by
        refine Classical.byContradiction fun hno => ?_
        obtain ⟨_, k11, ⟨t4, k1, k2⟩, _⟩ := hv.2.2.2 o (by omega) o1
        rcases o2 with h | h
        · have := pu_inj (by omega) (by omega) (k2.symm.trans h)
          omega
        · rw [k11] at h
          have := pu_ge (k := q) (by omega)
          rw [← h] at this
          exact absurd (by decide : (-1 : Int32) < 0) this
      obtain ⟨p2, hp2⟩ : ∃ p2, fl[o]? = some p2 := ⟨fl[o], List.getElem?_eq_some_iff.mpr ⟨hoC, rfl⟩⟩
      rcases pt_way hb hC hv hr2 hoC hp2 with ⟨_, h'⟩ | ⟨z', t', z1', z2', t1', ⟨_, h'⟩ | ⟨hs1, s', s1', s2', h', h10⟩⟩
      · rw [h'] at ho
        have := pu_ge (k := q) (by omega)
        rw [← ho] at this
        exact absurd (by decide : (-1 : Int32) < 0) this
      · have htC' := (List.getElem?_eq_some_iff.mp t1').1
        have := pu_inj (by omega) (by omega) (ho.symm.trans h')
        omega
      · have hsq : s' = q := pu_inj (by omega) (by omega) (h'.symm.trans ho)
        rw [hsq, hxq] at h10
        have htC' := (List.getElem?_eq_some_iff.mp t1').1
        have htt : t' = t := by rw [← hxt]; exact (pu_inj (by omega) (by omega) h10).symm
        rw [htt, t1] at t1'
        injection t1' with hzz
        refine hlt2 ?_
        unfold pt_s1 at hs1
        by_cases hcd : ¬ w0 10 p2 < 0 ∧ ¬ w0 (r2 - 1) p2 < 0 ∧ 2 ≤ wy (nn (w0 (r2 - 1) p2))
        · have h2 := hcd.2.2
          rw [z2', pu_nn (by omega)] at h2
          rw [hzz]
          exact h2
        · rw [if_neg hcd] at hs1
          cases hs1
  · -- by way of a block of its own
    have hxs : x = s := pu_inj (by omega) (by omega) (hrx.symm.trans h)
    have hqC : q < fl.length := by
      refine Classical.byContradiction fun hno => ?_
      obtain ⟨_, k11, ⟨t4, k1, k2⟩, _⟩ := hv.2.2.2 q (by omega) hqc
      rcases hq with h | h
      · have := pu_inj (by omega) (by omega) (k2.symm.trans h)
        omega
      · rw [k11] at h
        have := pu_ge (k := x) (by omega)
        rw [← h] at this
        exact absurd (by decide : (-1 : Int32) < 0) this
    exact ((hv.2.2.2 s s1 s2).2.2.2 q b r' r hqC hbC hr' hr (by rw [← hxs]; exact hrx') h).1
end NB
