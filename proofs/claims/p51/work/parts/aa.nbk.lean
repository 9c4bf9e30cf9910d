/-! pure side, the maker 9: the blocks by their new numbers, whole -/
section NW
variable {K : Nat} {w0 v0 v mw s : ST} {fl : List Nat} {wy : Nat → Nat} {c : Nat} {n : Nat → Nat}
theorem pv_newBlocks (hb : pt_lb K w0 fl wy) (hwyd : wy = pt_wy (w0 9) (w0 10) fl) (hC : fl.length ≤ c) (hc : c ≤ 60) (hw : pt_lw w0 fl fl.length c mw) (hv : pt_lv w0 fl wy v0 (fun b _ => b < fl.length) fl.length c v) (l : SL) :
    ∃ B s' w' l' s2 po wb, fX8_renumber s n v l = some (s', w', l') ∧ fX8_move s' 60 (mw 15) (v 0 0) (w' 0 0) = some (s2, po) ∧ pt_nbk K (w0 9) (w0 10) w' po B ∧ (0 < B ∧ B ≤ 60) ∧ w' 0 0 = pu_I B ∧ (∀ i, i ≠ 0 → w' 0 i = v0 0 i) ∧
      (∀ b, b < B → w' 4 b = -1 ∧ w' 5 b = -1 ∧ w' 6 b = -1 ∧ w' 7 b = -1 ∧ w' 9 b = -1) ∧ pv_wys B w' wb ∧ pv_sv B w' ∧
      (∀ F : pu_Flow, (∀ p c, p < B → c < B → (pu_sc F p c ↔ pv_eg w' p c)) → (∀ p c, p < B → pu_sc F p c → c < B) →
        pu_grf F (fun b => b < B) (pv_D B l') ∧ pu_dom F B (pv_D B l') ∧ (∀ b c, b < B → c < B → (pv_bt (l' 16 b) c = true ↔ pv_D B l' b c)) ∧ (∀ h, h < B → l' 17 h ≠ 0 → pu_lop F B (pv_D B l') h (fun c => pv_bt (l' 17 h) c = true)) ∧
        (∀ c, c < B → c ≠ 0 → w' 12 c = pu_I (nn (w' 12 c))) ∧ pv_dmx B (pv_D B l') (fun c => nn (w' 12 c))) := by
  obtain ⟨⟨hK0, hK, hc5⟩, ⟨hnd, hlt, h00⟩, hF, hG, h14, h11, hwy, hcl⟩ := id hb
  have hC0 : 0 < fl.length := (List.getElem?_eq_some_iff.mp h00).1
  have hsv := pv_lay_sv hb hC hc hv
  obtain ⟨Fi, rn, od, s', w', l', e1, hR, hi0, hrn0, hcl9, hrc, hs', hsr, a1, a2, a3, a4, a5, a6, al, ⟨wb, hwys⟩, hdi, hst, hnr, hlp, heg, hpr⟩ := pv_renumber (M := 0) (n := n) (s := s) (ph := fun _ => []) (B := c) (by omega) hc hv.1.1 hsv (Nat.zero_le _) (by omega) (by omega) ⟨fun b hb9 => by rw [(hv.2.1 b hb9).2.2.1]; exact (rfl : (-1 : Int32) = -1), fun b x a _ h => (by cases x <;> cases h)⟩ ⟨fun b _ a h => (by cases h), fun b _ => List.nodup_nil, fun b c a _ _ h => (by cases h)⟩ l
  obtain ⟨s2, po, m1, m2, m3, m4⟩ := pv_move hc hR hs' (mw 15)
  have hpos : 0 < Fi.length := List.length_pos_of_mem hi0
  have hlen := hR.2.2
  have hod0 : od 0 = 0 := by
    have h := (hR.1 0 hi0).2.2
    rw [hrn0] at h
    exact h
  have hod : ∀ j, j < Fi.length → od j ∈ Fi ∧ rn (od j) = j ∧ od j < c := fun j hj => ⟨(hR.2.1 j hj).1, (hR.2.1 j hj).2, (hR.1 _ (hR.2.1 j hj).1).1⟩
  have hpo : ∀ j, j < Fi.length → po j = mw 15 (od j) := fun j hj => by
    have h := m3 (od j) (hod j hj).1
    rw [(hod j hj).2.1] at h
    exact h
  have hpor : ∀ b, b ∈ Fi → po (rn b) = mw 15 b := m3
  have hrow : ∀ j, j < Fi.length → ∀ r, 4 ≤ r → r ≤ 9 → w' r j = v r (od j) := by
    intro j hj r r4 r9
    have h := a3 r r4 r9 (od j) (hod j hj).1
    rw [(hod j hj).2.1] at h
    exact h
  have hrow2 : ∀ j, j < Fi.length → w' 10 j = pv_rs rn (v 10 (od j)) ∧ w' 11 j = pv_rs rn (v 11 (od j)) := by
    intro j hj
    have h := a4 (od j) (hod j hj).1
    rw [(hod j hj).2.1] at h
    exact h
  have hrs : ∀ t, t < 60 → pv_rs rn (pu_I t) = pu_I (rn t) := fun t ht => by
    unfold pv_rs
    rw [if_neg (pu_ge (by omega)), pu_nn (by omega)]
  have hrsm : pv_rs rn (-1) = -1 := if_pos (by decide)
  have hmp : ∀ b, b < fl.length → ∃ p, p < K ∧ fl[b]? = some p ∧ mw 15 b = pu_I p := fun b hb9 => by
    obtain ⟨p, hp⟩ : ∃ p, fl[b]? = some p := ⟨fl[b], List.getElem?_eq_some_iff.mpr ⟨hb9, rfl⟩⟩
    exact ⟨p, hlt p (List.mem_iff_getElem?.mpr ⟨b, hp⟩), hp, hw.2.1 b p hb9 hp⟩
  have hpb : ∀ j p, j < Fi.length → p < K → po j = pu_I p → od j < fl.length ∧ fl[od j]? = some p := by
    intro j p hj hp h
    rw [hpo j hj] at h
    have hbC : od j < fl.length := by
      refine Classical.byContradiction fun hno => ?_
      rw [hw.2.2 (od j) (by omega) (hod j hj).2.2] at h
      have := pu_ge (k := p) (by omega)
      rw [← h] at this
      exact absurd (by decide : (-1 : Int32) < 0) this
    obtain ⟨p', p1, p2, p3⟩ := hmp (od j) hbC
    have := pu_inj (by omega) (by omega) (p3.symm.trans h)
    rw [this] at p2
    exact ⟨hbC, p2⟩
  have hsv' : pv_sv Fi.length w' := by
    intro j hj
    have key : ∀ x, (v 10 (od j) = x ∨ v 11 (od j) = x) → (x < 0 ∨ ∃ z, z < c ∧ x = pu_I z) → (pv_rs rn x < 0 ∨ ∃ z, z < Fi.length ∧ pv_rs rn x = pu_I z) := by
      rintro x hx (h | ⟨z, z1, rfl⟩)
      · exact Or.inl (by unfold pv_rs; rw [if_pos h]; decide)
      · have hz := hcl9 (od j) (hod j hj).1 z z1 hx
        exact Or.inr ⟨rn z, (hR.1 z hz).2.1, hrs z (by omega)⟩
    rw [(hrow2 j hj).1, (hrow2 j hj).2]
    exact ⟨key _ (Or.inl rfl) (hsv (od j) (hod j hj).2.2).1, key _ (Or.inr rfl) (hsv (od j) (hod j hj).2.2).2⟩
  -- a way of a piece's block
  have hway : ∀ r, (r = 10 ∨ r = 11) → ∀ j p q, j < Fi.length → fl[od j]? = some p → od j < fl.length → q < K → w0 (r - 1) p = pu_I q → w' r j = pv_rs rn (v r (od j)) → ∃ t, t < Fi.length ∧ po t = pu_I q ∧ (w' r j = pu_I t ∨ ∃ z, z < Fi.length ∧ po z = -1 ∧ w' r j = pu_I z ∧ w' 10 z = pu_I t) := by
    intro r hr j p q hj hp hjC hq he hwr
    have hegr : ∀ z, v r (od j) = pu_I z → pv_eg v (od j) z := fun z h => by
      rcases hr with rfl | rfl
      · exact Or.inl h
      · exact Or.inr h
    rcases pt_way hb hC hv hr hjC hp with ⟨h, _⟩ | ⟨q', t, q1, q2, t1, h⟩
    · rw [he] at h
      exact absurd h (pu_ge (by omega))
    · have hqq := pu_inj (by omega) (by omega) (he.symm.trans q2)
      have htC := (List.getElem?_eq_some_iff.mp t1).1
      have hmt : mw 15 t = pu_I q := by rw [hqq]; exact hw.2.1 t q' htC t1
      rcases h with ⟨_, h⟩ | ⟨_, z, z1, z2, h, h10⟩
      · have htF := hcl9 (od j) (hod j hj).1 t (by omega) (hegr t h)
        refine ⟨rn t, (hR.1 t htF).2.1, by rw [hpor t htF]; exact hmt, Or.inl ?_⟩
        rw [hwr, h, hrs t (by omega)]
      · have hzF := hcl9 (od j) (hod j hj).1 z z2 (hegr z h)
        have htF := hcl9 z hzF t (by omega) (Or.inl h10)
        refine ⟨rn t, (hR.1 t htF).2.1, by rw [hpor t htF]; exact hmt, Or.inr ⟨rn z, (hR.1 z hzF).2.1, ?_, ?_, ?_⟩⟩
        · rw [hpor z hzF]
          exact hw.2.2 z z1 z2
        · rw [hwr, h, hrs z (by omega)]
        · rw [(a4 z hzF).1, h10, hrs t (by omega)]
  refine ⟨Fi.length, s', w', l', s2, po, wb, e1, by rw [hv.1.1, a1]; exact m1, ⟨?_, fun j p hj hp h => ?_, fun j hj => ?_, fun j j' p hj hj' hp h h' => ?_, fun j x hj hx h23 he q hq heq => ?_⟩, ⟨hpos, by omega⟩, a1, fun i hi => by rw [a2 i hi]; exact hv.1.2 i hi, fun j hj => ?_, hwys, hsv', fun F h1 h2 => pv_shape hpos (by omega) h1 h2 hpr hdi hst hnr hlp⟩
  · rw [hpo 0 hpos, hod0]
    exact hw.2.1 0 0 hC0 h00
  · obtain ⟨hjC, hpj⟩ := hpb j p hj hp h
    obtain ⟨y1, y2, y3⟩ := hv.2.2.1 (od j) p hjC hpj
    refine ⟨by rw [hrow j hj 8 (by decide) (by decide)]; exact y1, fun h0 => ?_, fun h0 => ?_, fun q hq he => hway 10 (Or.inl rfl) j p q hj hpj hjC hq he (hrow2 j hj).1, fun q hq he => hway 11 (Or.inr rfl) j p q hj hpj hjC hq he (hrow2 j hj).2⟩
    · rw [(hrow2 j hj).1, y2.1 h0, hrsm]; decide
    · rw [(hrow2 j hj).2, y3.1 h0, hrsm]; decide
  · by_cases hjC : od j < fl.length
    · obtain ⟨p, p1, p2, p3⟩ := hmp (od j) hjC
      exact Or.inl ⟨p, p1, by rw [hpo j hj]; exact p3⟩
    · obtain ⟨y1, y2, ⟨t, t1, t2⟩, _⟩ := hv.2.2.2 (od j) (by omega) (hod j hj).2.2
      obtain ⟨p, p1, p2, p3⟩ := hmp t t1
      have htF := hcl9 (od j) (hod j hj).1 t (by omega) (Or.inl t2)
      refine Or.inr ⟨by rw [hpo j hj]; exact hw.2.2 (od j) (by omega) (hod j hj).2.2, by rw [hrow j hj 8 (by decide) (by decide)]; exact y1, by rw [(hrow2 j hj).2, y2, hrsm]; decide, rn t, p, (hR.1 t htF).2.1, p1, by rw [hpor t htF]; exact p3, by rw [(hrow2 j hj).1, t2, hrs t (by omega)]⟩
  · obtain ⟨g1, g2⟩ := hpb j p hj hp h
    obtain ⟨g3, g4⟩ := hpb j' p hj' hp h'
    have h9 : od j = od j' := pu_inj (by omega) (by omega) ((h14 _ p g2).2.symm.trans (h14 _ p g4).2)
    rw [← (hod j hj).2.1, h9, (hod j' hj').2.1]
  · have k1 := (heg j x hj he (by omega)).2
    have k2 := (heg q x hq heq (by omega)).2
    have h9 := pv_lay_one hb hwyd hC hc hv (hod j hj).2.2 (hod q hq).2.2 (hod x hx).2.2 (by rw [← hrow j hj 8 (by decide) (by decide)]; exact h23) k1 k2 (fun hge => by
      have hq0 : q ≠ 0 := fun e => by rw [e, hod0] at hge; omega
      obtain ⟨p, p1, p2⟩ := hpr q hq hq0
      exact ⟨od p, (hod p (by omega)).2.2, (heg p q (by omega) p2 (by omega)).2⟩)
    rw [← (hod q hq).2.1, h9, (hod j hj).2.1]
  · rw [hrow j hj 4 (by decide) (by decide), hrow j hj 5 (by decide) (by decide), hrow j hj 6 (by decide) (by decide), hrow j hj 7 (by decide) (by decide), hrow j hj 9 (by decide) (by decide)]
    exact hv.2.1 (od j) (hod j hj).2.2
end NW
