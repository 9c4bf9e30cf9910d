/-! pure side, the allocator 19: a flow whose values have registers -/
theorem pu_lv_ng {X : Int32 → Prop} {v : Int32} (hX : X v) : ∀ l : List pu_Stp, (∀ s, s ∈ l → pu_gw s.1 = true → s.2.1 ≠ v) → pu_lv l X v := by
  intro l
  induction l with
  | nil => intro _; exact hX
  | cons s l ih => intro h; exact Or.inr (Or.inr ⟨ih fun t ht => h t (List.mem_cons_of_mem _ ht), fun q => h s List.mem_cons_self q.1 q.2.symm⟩)
/-- what no step gives isn't live -/
theorem pu_gvn {F : pu_Flow} {B : Nat} {W : Nat → Int32 → Prop} {v : Int32} (hB : 0 < B) (hsc : ∀ b c, b < B → pu_sc F b c → c < B) (hr : ∀ b, b < B → pu_rch F b) (hl : pu_lok F (fun b => b < B) W) (h0 : ¬ W 0 v) (hg : ∀ b, b < B → ∀ s, s ∈ (F b).2.1 → pu_gw s.1 = true → s.2.1 ≠ v) :
    ∀ b, b < B → ∀ l1 l2, (F b).2.1 = l1 ++ l2 → ¬ pu_lv l2 (pu_xo F W b) v := by
  have h1 : ∀ b, b < B → ¬ W b v := fun b hb => (hr b hb (fun c => c < B ∧ ¬ W c v) ⟨hB, h0⟩ fun b c ⟨q1, q2⟩ hs => ⟨hsc b c q1 hs, fun q3 => q2 (hl b v q1 (pu_lv_ng (Or.inr ⟨c, hs, q3⟩) _ (hg b q1)))⟩).2
  intro b hb l1 l2 he hlv
  refine h1 b hb (hl b v hb ?_)
  rw [he, pu_lv_app]
  exact pu_lv_ng hlv l1 fun s hs => hg b hb s (by rw [he]; exact List.mem_append_left _ hs)
section CLD
variable {n n2 : Nat → Nat} {w fw x9 w' : ST} {l : SL} {B N V H wd K : Nat} {qs : Nat → List Nat} {F0 : pu_Flow} {o : Int32}
theorem pg_ct_p {b a v : Nat} (hb : b < B) (ha : a ∈ qs b) (h : x9 3 a = pu_I v) : pg_ct x9 v ((List.range B).flatMap qs) ≠ 0 := by
  unfold pg_ct
  have : 0 < ((List.range B).flatMap qs).countP (fun a => decide (x9 3 a = pu_I v)) := List.countP_pos_iff.mpr ⟨a, List.mem_flatMap.mpr ⟨b, List.mem_range.mpr hb, ha⟩, decide_eq_true h⟩
  omega
/-- what is live is given -/
theorem pa_used (has : pa_as F0 B N V H fw x9 n2 qs) (hgr : pg_gr B H V wd fw x9 qs n w l) (hW : ∀ v, pg_W H wd l 0 v → False) {b : Nat} (hb : b < B) {l1 l2 : List Nat} (hq : qs b = l1 ++ l2) {v : Int32} (hv : pu_lv (l2.map (pv_S x9)) (pu_xo (pg_F fw x9 qs) (pg_W H wd l) b) v) :
    ∃ u, u < V ∧ v = pu_I u ∧ pg_ct x9 u ((List.range B).flatMap qs) ≠ 0 := by
  obtain ⟨hfl, hgs, hnc, hrc, W, hok, hWH⟩ := has
  refine Classical.byContradiction fun hno => ?_
  refine pu_gvn hfl.1.2.1 hok.2.1 hrc hgr.2.2.2.2.2.2 (fun h => hW v h) (fun c hc s hs hgw he => hno ?_) b hb (l1.map (pv_S x9)) (l2.map (pv_S x9)) ?_ hv
  · obtain ⟨a, ha, rfl⟩ := List.mem_map.mp hs
    obtain ⟨u, hu, eu⟩ := (hfl.2.2.2.2.1 c hc a ha).2.1 hgw
    exact ⟨u, hu, he.symm.trans eu, pg_ct_p hc ha eu⟩
  · show (qs b).map (pv_S x9) = _
    rw [hq, List.map_append]
/-- values with registers: that is what makes code -/
theorem pa_coloured (has : pa_as F0 B N V H fw x9 n2 qs) (hgr : pg_gr B H V wd fw x9 qs n w l) (hW : ∀ v, pg_W H wd l 0 v → False) (hc : pg_cld n w l H V wd K x9 ((List.range B).flatMap qs) 1 w') :
    ∃ W', pa_ok F0 (pu_roF (pg_F fw x9 qs) (pa_rg w')) (fun b => b < B) W' := by
  have hus := fun {b : Nat} (hb : b < B) {l1 l2 : List Nat} (hq : qs b = l1 ++ l2) {v : Int32} => pa_used has hgr hW hb hq (v := v)
  obtain ⟨hfl, hgs, hnc, hrc, W, hok, hWH⟩ := has
  have hV := hfl.2.1.2.2
  obtain ⟨_, _, c3, c4, c5, _, c7⟩ := hc
  have c8 : ∀ v, v < V → pg_ct x9 v ((List.range B).flatMap qs) ≠ 0 → w' 17 v ≠ -1 := by
    rcases c7 with ⟨q, _⟩ | ⟨_, q⟩
    · exact absurd q (by decide)
    · exact q
  have hok1 : pa_ok F0 (pg_F fw x9 qs) (fun b => b < B) (pg_W H wd l) := pa_ok_V hok hgr.2.2.2.2.2.2 fun v hv => absurd hv (hW v)
  refine ⟨_, pa_ok_ro hok1 fun b l1 t l2 hb hl hgw v hv hne h25 => ?_⟩
  have hl : (qs b).map (pv_S x9) = l1 ++ t :: l2 := hl
  obtain ⟨m1, m9, hq, rfl, hm9⟩ := List.map_eq_append_iff.mp hl
  obtain ⟨a, m2, rfl, rfl, rfl⟩ := List.map_eq_cons_iff.mp hm9
  have haq : a ∈ qs b := by rw [hq]; exact List.mem_append_right _ List.mem_cons_self
  obtain ⟨g, hg, eg⟩ := (hfl.2.2.2.2.1 b hb a haq).2.1 hgw
  obtain ⟨u, hu, rfl, hcu⟩ := hus hb (l1 := m1 ++ [a]) (l2 := m2) (by rw [hq, List.append_assoc]; rfl) hv
  have hne : pu_I u ≠ x9 3 a := hne
  have h25 : x9 2 a = 25 → pu_I u ≠ x9 4 a := h25
  rw [eg] at hne
  have hug : u ≠ g := fun e => hne (by rw [e])
  have had := hgr.2.2.2.2.2.1 b hb m1 a m2 hq g u hgw eg hg hu hv hug h25
  show w' 17 (nn (pu_I u)) ≠ w' 17 (nn (x9 3 a))
  rw [eg, pu_nn (by omega), pu_nn (by omega)]
  exact fun e => c5 g u hg hu had hug.symm (c8 g hg (pg_ct_p hb haq eg)) (c8 u hu hcu) e.symm
end CLD
