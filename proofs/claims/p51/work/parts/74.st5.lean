/-! pure side, stores 5: what is wanted, in a block -/
theorem pv_want {g : ST} {v : Int32} (h : ixb v 250 = true) : fX5_want g v = some ((if g 7 (nn v) = 0 then 0 else 1), upw g 7 (nn v) 0) := by
  unfold fX5_want fX5_want_J14
  simp only [lt9]
  rw [if_pos h, if_pos h, if_pos h]
  by_cases h0 : g 7 (nn v) = 0
  · rw [if_pos h0, if_pos h0, if_pos (Or.inl trivial)]
  · rw [if_neg h0, if_neg h0, if_pos (Or.inr trivial)]
/-- marks fall, and what is told says whether one fell -/
def pv_wr (r : Int32) (g : ST) (r' : Int32) (g' : ST) : Prop :=
  (∀ q, q ≠ 7 → g' q = g q) ∧ (∀ v, g' 7 v = 0 ∨ g' 7 v = g 7 v) ∧ (r' = 0 ∨ r' = 1) ∧ (r' = 0 → r = 0 ∧ ∀ v, g' 7 v = g 7 v) ∧ (r' ≠ 0 → r = 0 → ∃ v, v < 250 ∧ g 7 v ≠ 0 ∧ g' 7 v = 0)
theorem pv_wr_rf {r : Int32} {g : ST} (h : r = 0 ∨ r = 1) : pv_wr r g r g := ⟨fun _ _ => rfl, fun _ => Or.inr rfl, h, fun h => ⟨h, fun _ => rfl⟩, fun h1 h2 => absurd h2 h1⟩
theorem pv_wr_tr {r r1 r2 : Int32} {g g1 g2 : ST} (h1 : pv_wr r g r1 g1) (h2 : pv_wr r1 g1 r2 g2) : pv_wr r g r2 g2 := by
  refine ⟨fun q hq => by rw [h2.1 q hq, h1.1 q hq], fun v => ?_, h2.2.2.1, fun h0 => ?_, fun hn h0 => ?_⟩
  · rcases h2.2.1 v with h | h
    · exact Or.inl h
    · rw [h]; exact h1.2.1 v
  · have a := h2.2.2.2.1 h0
    have b := h1.2.2.2.1 a.1
    exact ⟨b.1, fun v => by rw [a.2, b.2]⟩
  · by_cases h9 : r1 = 0
    · have b := h1.2.2.2.1 h9
      obtain ⟨v, x, y, z⟩ := h2.2.2.2.2 hn h9
      exact ⟨v, x, by rw [← b.2]; exact y, z⟩
    · obtain ⟨v, x, y, z⟩ := h1.2.2.2.2 h9 h0
      refine ⟨v, x, y, ?_⟩
      rcases h2.2.1 v with h | h
      · exact h
      · rw [h, z]
/-- want, or'ed to what was told ahead -/
theorem pv_want_wr {g : ST} {v r : Int32} (h : ixb v 250 = true) (hr : r = 0 ∨ r = 1) : pv_wr r g (if (if g 7 (nn v) = 0 then (0 : Int32) else 1) = 0 then r else 1) (upw g 7 (nn v) 0) ∧ upw g 7 (nn v) 0 7 (nn v) = 0 := by
  have hs : upw g 7 (nn v) 0 7 (nn v) = 0 := by rw [pv_upw]; simp
  refine ⟨⟨fun q hq => pv_upw_n hq, fun u => ?_, ?_, fun h0 => ?_, fun h1 h0 => ?_⟩, hs⟩
  · rw [pv_upw]
    by_cases hu : u = nn v
    · rw [if_pos ⟨rfl, hu⟩]; exact Or.inl rfl
    · rw [if_neg (fun c => hu c.2)]; exact Or.inr rfl
  · by_cases h9 : g 7 (nn v) = 0
    · rw [if_pos h9, if_pos rfl]; exact hr
    · rw [if_neg h9, if_neg (by decide)]; exact Or.inr rfl
  · by_cases h9 : g 7 (nn v) = 0
    · rw [if_pos h9, if_pos rfl] at h0
      refine ⟨h0, fun u => ?_⟩
      rw [pv_upw]
      by_cases hu : u = nn v
      · rw [if_pos ⟨rfl, hu⟩, hu, h9]
      · rw [if_neg (fun c => hu c.2)]
    · rw [if_neg h9, if_neg (by decide)] at h0
      exact absurd h0 (by decide)
  · by_cases h9 : g 7 (nn v) = 0
    · rw [if_pos h9, if_pos rfl] at h1
      exact absurd h0 h1
    · exact ⟨nn v, (pv_ixn h).2, h9, hs⟩
def pv_mf (g w2 : ST) (a : Nat) : Bool := decide ((w2 2 a = 4 ∨ w2 2 a = 5) ∧ ¬ (¬ g 2 (nn (w2 5 a)) < 0 ∧ w2 2 (nn (g 2 (nn (w2 5 a)))) = 0 ∧ w2 4 (nn (g 2 (nn (w2 5 a)))) ≠ 0))
theorem pv_mf_g {g g' w2 : ST} {a : Nat} (h : g' 2 = g 2) : pv_mf g' w2 a = pv_mf g w2 a := by unfold pv_mf; rw [h]
theorem pv_ur45 {k : Int32} (h : k = 4 ∨ k = 5) : pu_ur k = true := by rcases h with h | h <;> rw [h] <;> decide
/-- values are below 250 where they are used -/
def pv_rg (w2 : ST) (B : Nat) (ch : Nat → List Nat) : Prop := ∀ b, b < B → ∀ a ∈ ch b, (pu_ul (w2 2 a) = true → ixb (w2 4 a) 250 = true) ∧ (pu_ur (w2 2 a) = true → ixb (w2 5 a) 250 = true)
section DA
variable {n n2 : Nat → Nat} {w w2 : ST} {B N M : Nat} {ch ph : Nat → List Nat}
theorem pv_mayFail {g : ST} (hok : pv_ok n w n2 w2 B N M ch ph) (hrg : pv_rg w2 B ch) (hg : pv_giv w2 B ch g) {b a : Nat} (hb : b < B) (ha : a ∈ ch b) : fX5_mayFail g (pu_I a) n2 w2 = some (pv_b (pv_mf g w2 a)) := by
  obtain ⟨_, ⟨hN2, hN3, hN4, hN5, hN6, hN⟩, _, hst, hd, _⟩ := hok
  have haN := hd.1 b hb a ha
  have ha31 : a < 2147483648 := by omega
  have hi2 : ixb (pu_I a) (n2 2) = true := (pu_ix ha31).mpr (by omega)
  have hi5 : ixb (pu_I a) (n2 5) = true := (pu_ix ha31).mpr (by omega)
  have hJ : (w2 2 a = 4 ∨ w2 2 a = 5) → fX5_mayFail_J22 g (pu_I a) n2 w2 = some (pv_b (pv_mf g w2 a)) := by
    intro h45
    have hr := (hrg b hb a ha).2 (pv_ur45 h45)
    unfold fX5_mayFail_J22
    rw [if_pos hi5, pu_nn ha31]
    unfold fX5_isNumber fX5_isNumber_J30 fX5_isNumber_J31
    rw [if_pos hr]
    by_cases h0 : g 2 (nn (w2 5 a)) < 0
    · have hm : pv_mf g w2 a = true := by
        unfold pv_mf
        rw [decide_eq_true_iff]
        exact ⟨h45, fun c => c.1 h0⟩
      rw [if_pos h0, if_pos (Or.inl rfl), hm]
      rfl
    · obtain ⟨b2, a2, hb2, ha2, e1, e2⟩ := hg _ (pv_ixn hr).2 h0
      have ha2N := hd.1 b2 hb2 a2 ha2
      have ha231 : a2 < 2147483648 := by omega
      rw [if_neg h0, if_pos hr, e1, if_pos ((pu_ix ha231).mpr (by omega)), pu_nn ha231]
      by_cases hk : w2 2 a2 = 0
      · rw [if_pos hk, if_pos (Or.inr rfl)]
        rw [Option.bind_some, if_neg (by decide)]
        unfold fX5_numberOf
        rw [if_pos hr, e1, if_pos ((pu_ix ha231).mpr (by omega)), pu_nn ha231]
        rw [Option.bind_some]
        unfold fX5_mayFail_J53 fX5_mayFail_J58
        by_cases hz : w2 4 a2 = 0
        · have hm : pv_mf g w2 a = true := by
            unfold pv_mf
            rw [decide_eq_true_iff, e1, pu_nn ha231]
            exact ⟨h45, fun c => c.2.2 hz⟩
          rw [if_pos hz, if_pos (Or.inr rfl), hm]
          rfl
        · have hm : pv_mf g w2 a = false := by
            unfold pv_mf
            rw [decide_eq_false_iff_not, e1, pu_nn ha231]
            exact fun c => c.2 ⟨pu_ge ha231, hk, hz⟩
          rw [if_neg hz, if_pos (Or.inl rfl), hm]
          rfl
      · have hm : pv_mf g w2 a = true := by
          unfold pv_mf
          rw [decide_eq_true_iff, e1, pu_nn ha231]
          exact ⟨h45, fun c => hk c.2.1⟩
        rw [if_neg hk, if_pos (Or.inl rfl), hm]
        rfl
  unfold fX5_mayFail
  rw [if_pos hi2, pu_nn ha31]
  by_cases h4 : w2 2 a = 4
  · rw [if_pos h4]; exact hJ (Or.inl h4)
  · rw [if_neg h4]
    by_cases h5 : w2 2 a = 5
    · rw [if_pos h5]; exact hJ (Or.inr h5)
    · rw [if_neg h5]
      have hm : pv_mf g w2 a = false := by
        unfold pv_mf
        rw [decide_eq_false_iff_not]
        exact fun c => c.1.elim h4 h5
      rw [hm]
      rfl
/-- used values aren't marked -/
def pv_uu (w2 g : ST) (a : Nat) : Prop := (pu_ul (w2 2 a) = true → g 7 (nn (w2 4 a)) = 0) ∧ (pu_ur (w2 2 a) = true → g 7 (nn (w2 5 a)) = 0)
theorem pv_wantUsed {g : ST} (hok : pv_ok n w n2 w2 B N M ch ph) (hrg : pv_rg w2 B ch) {b a : Nat} (hb : b < B) (ha : a ∈ ch b) :
    ∃ r g', fX5_wantUsed g n2 w2 (pu_I a) = some (r, g') ∧ pv_wr 0 g r g' ∧ pv_uu w2 g' a := by
  obtain ⟨_, ⟨hN2, hN3, hN4, hN5, hN6, hN⟩, _, hst, hd, _⟩ := hok
  have haN := hd.1 b hb a ha
  have ha31 : a < 2147483648 := by omega
  have hi2 : ixb (pu_I a) (n2 2) = true := (pu_ix ha31).mpr (by omega)
  have hi4 : ixb (pu_I a) (n2 4) = true := (pu_ix ha31).mpr (by omega)
  have hi5 : ixb (pu_I a) (n2 5) = true := (pu_ix ha31).mpr (by omega)
  have hr := hrg b hb a ha
  -- the right one
  have hJ : ∀ (r0 : Int32) (g0 : ST), (r0 = 0 ∨ r0 = 1) → ∃ r g', fX5_wantUsed_J30 n2 w2 (pu_I a) r0 g0 = some (r, g') ∧ pv_wr r0 g0 r g' ∧ (pu_ur (w2 2 a) = true → g' 7 (nn (w2 5 a)) = 0) := by
    intro r0 g0 h01
    unfold fX5_wantUsed_J30
    rw [if_pos hi2, pu_nn ha31, pv_ur]
    show ∃ r g', (if pv_b (pu_ur (w2 2 a)) = 0 then _ else _) = _ ∧ _
    unfold fX5_wantUsed_J56 fX5_wantUsed_J60 fX5_wantUsed_J65
    by_cases hu : pu_ur (w2 2 a) = true
    · rw [hu, if_neg (by decide), if_pos hi5, pv_want (hr.2 hu)]
      have h9 := pv_want_wr (g := g0) (v := w2 5 a) (r := r0) (hr.2 hu) h01
      refine ⟨_, _, ?_, h9.1, fun _ => h9.2⟩
      show (if (if g0 7 (nn (w2 5 a)) = 0 then (0 : Int32) else 1) = 0 then _ else _) = _
      by_cases h8 : g0 7 (nn (w2 5 a)) = 0
      · rw [if_pos h8, if_pos rfl, if_pos rfl]
        rcases h01 with rfl | rfl
        · rw [if_pos rfl, if_pos (Or.inl rfl)]
        · rw [if_neg (by decide), if_pos (Or.inr rfl)]
      · rw [if_neg h8, if_neg (by decide), if_pos (Or.inr rfl), if_neg (by decide)]
    · have hu : pu_ur (w2 2 a) = false := by simpa using hu
      rw [hu, if_pos (by decide)]
      refine ⟨r0, g0, ?_, pv_wr_rf h01, fun c => by cases c⟩
      rcases h01 with rfl | rfl
      · rw [if_pos rfl, if_pos (Or.inl rfl)]
      · rw [if_neg (by decide), if_pos (Or.inr rfl)]
  unfold fX5_wantUsed
  rw [if_pos hi2, pu_nn ha31, pv_ul]
  show ∃ r g', (if pv_b (pu_ul (w2 2 a)) = 0 then _ else _) = _ ∧ _
  unfold fX5_wantUsed_J29
  by_cases hu : pu_ul (w2 2 a) = true
  · rw [hu, if_neg (by decide), if_pos hi4, pv_want (hr.1 hu)]
    have h9 := pv_want_wr (g := g) (v := w2 4 a) (r := 0) (hr.1 hu) (Or.inl rfl)
    have hfin : ∀ r0, pv_wr 0 g r0 (upw g 7 (nn (w2 4 a)) 0) → ∃ r g', fX5_wantUsed_J30 n2 w2 (pu_I a) r0 (upw g 7 (nn (w2 4 a)) 0) = some (r, g') ∧ pv_wr 0 g r g' ∧ pv_uu w2 g' a := by
      intro r0 h0
      obtain ⟨r, g', h1, h2, h3⟩ := hJ r0 _ h0.2.2.1
      refine ⟨r, g', h1, pv_wr_tr h0 h2, fun _ => ?_, h3⟩
      rcases h2.2.1 (nn (w2 4 a)) with h | h
      · exact h
      · rw [h]; exact h9.2
    show ∃ r g', (if (if g 7 (nn (w2 4 a)) = 0 then (0 : Int32) else 1) = 0 then _ else _) = _ ∧ _
    by_cases h8 : g 7 (nn (w2 4 a)) = 0
    · rw [if_pos h8, if_pos rfl]
      refine hfin 0 ?_
      have := h9.1
      rw [if_pos h8, if_pos rfl] at this
      exact this
    · rw [if_neg h8, if_neg (by decide)]
      refine hfin 1 ?_
      have := h9.1
      rw [if_neg h8, if_neg (by decide)] at this
      exact this
  · have hu : pu_ul (w2 2 a) = false := by simpa using hu
    rw [hu, if_pos (by decide)]
    obtain ⟨r, g', h1, h2, h3⟩ := hJ 0 g (Or.inl rfl)
    exact ⟨r, g', h1, h2, (fun c => by rw [hu] at c; cases c), h3⟩
/-- a step has what it wants -/
def pv_cs (gv w2 g : ST) (a : Nat) : Prop := ((w2 2 a = 18 ∨ w2 2 a = 19 ∨ pv_mf gv w2 a = true) → pv_uu w2 g a) ∧ (¬ w2 3 a < 0 → pv_mf gv w2 a = true → g 7 (nn (w2 3 a)) = 0) ∧ (¬ w2 3 a < 0 → g 7 (nn (w2 3 a)) = 0 → pv_uu w2 g a)
theorem pv_or {r o : Int32} (ho : o = 0 ∨ o = 1) (hr : r = 0 ∨ r = 1) {g g' : ST} (h : pv_wr 0 g o g') : pv_wr r g (if o = 0 then r else 1) g' := by
  refine ⟨h.1, h.2.1, ?_, fun h0 => ?_, fun h1 h0 => ?_⟩
  · by_cases h9 : o = 0
    · rw [if_pos h9]; exact hr
    · rw [if_neg h9]; exact Or.inr rfl
  · by_cases h9 : o = 0
    · rw [if_pos h9] at h0
      exact ⟨h0, (h.2.2.2.1 h9).2⟩
    · rw [if_neg h9] at h0
      exact absurd h0 (by decide)
  · by_cases h9 : o = 0
    · rw [if_pos h9] at h1
      exact absurd h0 h1
    · exact h.2.2.2.2 h9 rfl
theorem pv_wr_2 {r r' : Int32} {g g' : ST} (h : pv_wr r g r' g') : g' 2 = g 2 := h.1 2 (by decide)
/-- one step of the loop over a block's steps -/
theorem pv_want_step {g : ST} (hok : pv_ok n w n2 w2 B N M ch ph) (hrg : pv_rg w2 B ch) (hg : pv_giv w2 B ch g) {b a : Nat} (hb : b < B) (ha : a ∈ ch b) {r : Int32} (hr : r = 0 ∨ r = 1) (k : Nat) :
    ∃ r' g', fX5_wantInBlock_L42 n2 w2 (k + 1) r (pu_I a) g = fX5_wantInBlock_L42 n2 w2 k r' (w2 6 a) g' ∧ pv_wr r g r' g' ∧ (r' = 0 → pv_cs g w2 g a) := by
  obtain ⟨hB0, hNs, hMs, hst, hd, hph, hdp, hix, hix2⟩ := id hok
  have haN := hd.1 b hb a ha
  have ha31 : a < 2147483648 := by omega
  have hi2 : ixb (pu_I a) (n2 2) = true := (pu_ix ha31).mpr (by omega)
  have hi3 : ixb (pu_I a) (n2 3) = true := (pu_ix ha31).mpr (by omega)
  have hi6 : ixb (pu_I a) (n2 6) = true := (pu_ix ha31).mpr (by omega)
  have hgr := hix2 b hb a ha
  have h196 : ∀ (r0 : Int32) (g0 : ST), fX5_wantInBlock_J196 (fX5_wantInBlock_L42 n2 w2 k) n2 w2 (pu_I a) r0 g0 = fX5_wantInBlock_L42 n2 w2 k r0 (w2 6 a) g0 := by
    intro r0 g0
    unfold fX5_wantInBlock_J196
    rw [if_pos hi6, pu_nn ha31]
  -- what a wanted value uses
  have h148 : ∀ (r0 : Int32) (g0 : ST), (r0 = 0 ∨ r0 = 1) → ∃ r' g', fX5_wantInBlock_J148 (fX5_wantInBlock_L42 n2 w2 k) n2 w2 (pu_I a) r0 g0 = fX5_wantInBlock_L42 n2 w2 k r' (w2 6 a) g' ∧ pv_wr r0 g0 r' g' ∧ (r' = 0 → ¬ w2 3 a < 0 → g0 7 (nn (w2 3 a)) = 0 → pv_uu w2 g' a) := by
    intro r0 g0 h01
    unfold fX5_wantInBlock_J148
    rw [if_pos hi3, pu_nn ha31]
    by_cases h0 : w2 3 a < 0
    · rw [if_pos h0]
      exact ⟨r0, g0, h196 r0 g0, pv_wr_rf h01, fun _ c => absurd h0 c⟩
    · rw [if_neg h0, if_pos hi3, if_pos (hgr.resolve_left h0)]
      by_cases hm : g0 7 (nn (w2 3 a)) = 0
      · rw [if_pos hm]
        obtain ⟨o, g1, h1, h2, h3⟩ := pv_wantUsed (g := g0) hok hrg hb ha
        rw [h1]
        refine ⟨if o = 0 then r0 else 1, g1, ?_, pv_or h2.2.2.1 h01 h2, fun _ _ _ => h3⟩
        show (if o = 0 then (if r0 = 0 then _ else _) else _) = _
        unfold fX5_wantInBlock_J190 fX5_wantInBlock_J195
        rw [h196, h196]
        by_cases h9 : o = 0
        · rw [if_pos h9, if_pos h9]
          rcases h01 with rfl | rfl
          · rw [if_pos rfl]
          · rw [if_neg (by decide)]
        · rw [if_neg h9, if_neg h9]
      · rw [if_neg hm]
        exact ⟨r0, g0, h196 r0 g0, pv_wr_rf h01, fun _ _ c => absurd c hm⟩
  -- what may fail is wanted itself
  have h102 : ∀ (r0 : Int32) (g0 : ST), (r0 = 0 ∨ r0 = 1) → g0 2 = g 2 → ∃ r' g', fX5_wantInBlock_J102 (fX5_wantInBlock_L42 n2 w2 k) n2 w2 (pu_I a) r0 g0 = fX5_wantInBlock_L42 n2 w2 k r' (w2 6 a) g' ∧ pv_wr r0 g0 r' g' ∧ (r' = 0 → (¬ w2 3 a < 0 → pv_mf g w2 a = true → g0 7 (nn (w2 3 a)) = 0) ∧ (¬ w2 3 a < 0 → g0 7 (nn (w2 3 a)) = 0 → pv_uu w2 g' a)) := by
    intro r0 g0 h01 hg2
    have hg0 : pv_giv w2 B ch g0 := by
      intro v hv h
      rw [hg2] at h ⊢
      exact hg v hv h
    unfold fX5_wantInBlock_J102
    rw [if_pos hi3, pu_nn ha31]
    by_cases h0 : w2 3 a < 0
    · rw [if_pos h0]
      obtain ⟨r', g', h1, h2, h3⟩ := h148 r0 g0 h01
      exact ⟨r', g', h1, h2, fun h9 => ⟨fun c => absurd h0 c, h3 h9⟩⟩
    · rw [if_neg h0, pv_mayFail hok hrg hg0 hb ha, pv_mf_g hg2]
      show ∃ r' g', (if pv_b (pv_mf g w2 a) = 0 then _ else _) = _ ∧ _
      by_cases hm : pv_mf g w2 a = true
      · have hxg := hgr.resolve_left h0
        rw [hm, if_neg (by decide), if_pos hi3, pv_want hxg]
        have h9 := pv_want_wr (g := g0) (v := w2 3 a) (r := r0) hxg h01
        have hfin : ∀ r1, pv_wr r0 g0 r1 (upw g0 7 (nn (w2 3 a)) 0) → ∃ r' g', fX5_wantInBlock_J148 (fX5_wantInBlock_L42 n2 w2 k) n2 w2 (pu_I a) r1 (upw g0 7 (nn (w2 3 a)) 0) = fX5_wantInBlock_L42 n2 w2 k r' (w2 6 a) g' ∧ pv_wr r0 g0 r' g' ∧ (r' = 0 → (¬ w2 3 a < 0 → True → g0 7 (nn (w2 3 a)) = 0) ∧ (¬ w2 3 a < 0 → g0 7 (nn (w2 3 a)) = 0 → pv_uu w2 g' a)) := by
          intro r1 hw1
          obtain ⟨r', g', h1, h2, h3⟩ := h148 r1 _ hw1.2.2.1
          refine ⟨r', g', h1, pv_wr_tr hw1 h2, fun hz => ?_⟩
          have hz1 := (h2.2.2.2.1 hz).1
          have hz2 := (hw1.2.2.2.1 hz1).2 (nn (w2 3 a))
          rw [h9.2] at hz2
          exact ⟨fun _ _ => hz2.symm, fun hn _ => h3 hz hn h9.2⟩
        have hconv : ∀ r1 : Int32, pv_wr r0 g0 r1 (upw g0 7 (nn (w2 3 a)) 0) → ∃ r' g', fX5_wantInBlock_J148 (fX5_wantInBlock_L42 n2 w2 k) n2 w2 (pu_I a) r1 (upw g0 7 (nn (w2 3 a)) 0) = fX5_wantInBlock_L42 n2 w2 k r' (w2 6 a) g' ∧ pv_wr r0 g0 r' g' ∧ (r' = 0 → (¬ w2 3 a < 0 → true = true → g0 7 (nn (w2 3 a)) = 0) ∧ (¬ w2 3 a < 0 → g0 7 (nn (w2 3 a)) = 0 → pv_uu w2 g' a)) := by
          intro r1 h
          obtain ⟨r', g', h1, h2, h3⟩ := hfin r1 h
          exact ⟨r', g', h1, h2, fun hz => ⟨fun x _ => (h3 hz).1 x trivial, (h3 hz).2⟩⟩
        show ∃ r' g', (if (if g0 7 (nn (w2 3 a)) = 0 then (0 : Int32) else 1) = 0 then (if r0 = 0 then _ else _) else _) = _ ∧ _
        unfold fX5_wantInBlock_J142 fX5_wantInBlock_J147
        have hw1 := h9.1
        by_cases h8 : g0 7 (nn (w2 3 a)) = 0
        · rw [if_pos h8, if_pos rfl] at hw1
          rw [if_pos h8, if_pos rfl]
          rcases h01 with rfl | rfl
          · rw [if_pos rfl]; exact hconv 0 hw1
          · rw [if_neg (by decide)]; exact hconv 1 hw1
        · rw [if_neg h8, if_neg (by decide)] at hw1
          rw [if_neg h8, if_neg (by decide)]
          exact hconv 1 hw1
      · have hm : pv_mf g w2 a = false := by simpa using hm
        rw [hm, if_pos (by decide)]
        obtain ⟨r', g', h1, h2, h3⟩ := h148 r0 g0 h01
        exact ⟨r', g', h1, h2, fun h9 => ⟨(fun _ c => by cases c), h3 h9⟩⟩
  -- what is used by what stays
  have hrest : ∀ r0 g0 r' g', pv_wr r g r0 g0 → pv_wr r0 g0 r' g' → r' = 0 → ((w2 2 a = 18 ∨ w2 2 a = 19 ∨ pv_mf g w2 a = true) → pv_uu w2 g0 a) → ((¬ w2 3 a < 0 → pv_mf g w2 a = true → g0 7 (nn (w2 3 a)) = 0) ∧ (¬ w2 3 a < 0 → g0 7 (nn (w2 3 a)) = 0 → pv_uu w2 g' a)) → pv_cs g w2 g a := by
    intro r0 g0 r' g' h1 h2 hz hx hy
    have z1 := h2.2.2.2.1 hz
    have z2 := h1.2.2.2.1 z1.1
    have e0 : ∀ v, g0 7 v = g 7 v := z2.2
    have e1 : ∀ v, g' 7 v = g 7 v := fun v => by rw [z1.2, z2.2]
    refine ⟨fun h => ?_, fun h3 h4 => by rw [← e0]; exact hy.1 h3 h4, fun h3 h4 => ?_⟩
    · have := hx h
      exact ⟨fun h5 => by rw [← e0]; exact this.1 h5, fun h5 => by rw [← e0]; exact this.2 h5⟩
    · have := hy.2 h3 (by rw [e0]; exact h4)
      exact ⟨fun h5 => by rw [← e1]; exact this.1 h5, fun h5 => by rw [← e1]; exact this.2 h5⟩
  have h81 : ∃ r' g', fX5_wantInBlock_J81 (fX5_wantInBlock_L42 n2 w2 k) n2 w2 r (pu_I a) g = fX5_wantInBlock_L42 n2 w2 k r' (w2 6 a) g' ∧ pv_wr r g r' g' ∧ (r' = 0 → pv_cs g w2 g a) := by
    unfold fX5_wantInBlock_J81
    obtain ⟨o, g1, h1, h2, h3⟩ := pv_wantUsed (g := g) hok hrg hb ha
    rw [h1]
    have hor := pv_or h2.2.2.1 hr h2
    obtain ⟨r', g', h4, h5, h6⟩ := h102 (if o = 0 then r else 1) g1 hor.2.2.1 (pv_wr_2 h2)
    refine ⟨r', g', ?_, pv_wr_tr hor h5, fun hz => hrest _ _ _ _ hor h5 hz (fun _ => h3) (h6 hz)⟩
    rw [← h4]
    show (if o = 0 then (if r = 0 then _ else _) else _) = _
    unfold fX5_wantInBlock_J96 fX5_wantInBlock_J101
    by_cases h9 : o = 0
    · rw [if_pos h9, if_pos h9]
      rcases hr with rfl | rfl
      · rw [if_pos rfl]
      · rw [if_neg (by decide)]
    · rw [if_neg h9, if_neg h9]
  show ∃ r' g', (if pu_I a < 0 then some (r, g) else (if ixb (pu_I a) (n2 2) = true then (if w2 2 (nn (pu_I a)) = 18 then fX5_wantInBlock_J81 (fX5_wantInBlock_L42 n2 w2 k) n2 w2 r (pu_I a) g else (if w2 2 (nn (pu_I a)) = 19 then fX5_wantInBlock_J81 (fX5_wantInBlock_L42 n2 w2 k) n2 w2 r (pu_I a) g else ((fX5_mayFail g (pu_I a) n2 w2).bind fun (o_31 : Int32) => (if o_31 = 0 then fX5_wantInBlock_J102 (fX5_wantInBlock_L42 n2 w2 k) n2 w2 (pu_I a) r g else fX5_wantInBlock_J81 (fX5_wantInBlock_L42 n2 w2 k) n2 w2 r (pu_I a) g)))) else none)) = _ ∧ _
  rw [if_neg (pu_ge ha31), if_pos hi2, pu_nn ha31]
  by_cases h18 : w2 2 a = 18
  · rw [if_pos h18]; exact h81
  · rw [if_neg h18]
    by_cases h19 : w2 2 a = 19
    · rw [if_pos h19]; exact h81
    · rw [if_neg h19, pv_mayFail hok hrg hg hb ha]
      show ∃ r' g', (if pv_b (pv_mf g w2 a) = 0 then _ else _) = _ ∧ _
      by_cases hm : pv_mf g w2 a = true
      · rw [hm, if_neg (by decide)]; exact h81
      · have hm : pv_mf g w2 a = false := by simpa using hm
        rw [hm, if_pos (by decide)]
        obtain ⟨r', g', h4, h5, h6⟩ := h102 r g hr rfl
        refine ⟨r', g', h4, h5, fun hz => hrest r g r' g' (pv_wr_rf hr) h5 hz (fun c => ?_) (h6 hz)⟩
        rcases c with c | c | c
        · exact absurd c h18
        · exact absurd c h19
        · rw [hm] at c; cases c
end DA
