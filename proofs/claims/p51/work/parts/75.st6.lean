/-! pure side, stores 6: what is wanted, in all blocks -/
theorem pv_cs_eq {g g0 w2 : ST} {a : Nat} (h2 : g 2 = g0 2) (h7 : ∀ v, g 7 v = g0 7 v) (h : pv_cs g w2 g a) : pv_cs g0 w2 g0 a := by
  unfold pv_cs pv_uu at h ⊢
  rw [pv_mf_g h2] at h
  simp only [h7] at h
  exact h
/-- the ways into blocks: row 14 tells where they begin, row 15 from where they come -/
def pv_wys (B : Nat) (w : ST) (wb : Nat → Nat) : Prop :=
  (∀ b, b ≤ B → w 14 b = pu_I (wb b)) ∧ (∀ b, b < B → wb b ≤ wb (b + 1)) ∧ (∀ b, b ≤ B → wb b ≤ 120) ∧ (∀ b j, b < B → wb b ≤ j → j < wb (b + 1) → ∃ p, p < B ∧ w 15 j = pu_I p ∧ (w 10 p = pu_I b ∨ w 11 p = pu_I b)) ∧
  (∀ b p, b < B → p < B → (w 10 p = pu_I b ∨ w 11 p = pu_I b) → ∃ j, wb b ≤ j ∧ j < wb (b + 1) ∧ w 15 j = pu_I p) ∧
  (∀ b i j, b < B → wb b ≤ i → i < j → j < wb (b + 1) → w 15 i ≠ w 15 j)
theorem pv_sub {a b : Nat} (h : b ≤ a) : pu_I a - pu_I b = pu_I (a - b) := (Int32.ofNat_sub a b h).symm
theorem pv_add (a b : Nat) : pu_I a + pu_I b = pu_I (a + b) := (Int32.ofNat_add a b).symm
theorem pv_mul (a b : Nat) : pu_I a * pu_I b = pu_I (a * b) := (Int32.ofNat_mul a b).symm
theorem pv_waysTo {B : Nat} {w : ST} {wb : Nat → Nat} (hB : B ≤ 60) (hw : pv_wys B w wb) {b : Nat} (hb : b < B) : fX1_waysTo w (pu_I b) = some (pu_I (wb (b + 1) - wb b)) := by
  unfold fX1_waysTo
  rw [pu_su, if_pos ((pu_ix (by omega)).mpr (by omega)), if_pos ((pu_ix (by omega)).mpr (by omega)), pu_nn (by omega), pu_nn (by omega), hw.1 (b + 1) (by omega), hw.1 b (by omega), pv_sub (hw.2.1 b hb)]
theorem pv_wayFrom {B : Nat} {w : ST} {wb : Nat → Nat} (hB : B ≤ 60) (hw : pv_wys B w wb) {b i : Nat} (hb : b < B) (hi : wb b + i < wb (b + 1)) : fX1_wayFrom w (pu_I b) (pu_I i) = some (w 15 (wb b + i)) := by
  have := hw.2.2.1 (b + 1) (by omega)
  unfold fX1_wayFrom
  rw [if_pos ((pu_ix (by omega)).mpr (by omega)), pu_nn (by omega), hw.1 b (by omega), pv_add, if_pos ((pu_ix (by omega)).mpr (by omega)), pu_nn (by omega)]
theorem pv_take {n : Nat → Nat} {w : ST} {a p : Nat} (h : a * 60 + p < n 21) (h2 : a * 60 + p < 2147483648) : fX1_take n w (pu_I a) (pu_I p) = some (w 21 (a * 60 + p)) := by
  unfold fX1_take
  rw [show (60 : Int32) = pu_I 60 from rfl, pv_mul, pv_add, if_pos ((pu_ix h2).mpr h), pu_nn h2]
def pv_tk (B : Nat) (w : ST) (wb : Nat → Nat) (ph : Nat → List Nat) : Prop := ∀ b, b < B → ∀ a ∈ ph b, ∀ j, wb b ≤ j → j < wb (b + 1) → ixb (w 21 (a * 60 + nn (w 15 j))) 250 = true
/-- a wanted phi has what it wants -/
def pv_cp (w g : ST) (wb : Nat → Nat) (b a : Nat) : Prop := g 7 (nn (w 19 a)) = 0 → ∀ j, wb b ≤ j → j < wb (b + 1) → g 7 (nn (w 21 (a * 60 + nn (w 15 j)))) = 0
section DB
variable {n n2 : Nat → Nat} {w w2 : ST} {B N M : Nat} {ch ph : Nat → List Nat} {wb : Nat → Nat}
theorem pv_giv_2 {g g0 : ST} (h2 : g 2 = g0 2) (h : pv_giv w2 B ch g0) : pv_giv w2 B ch g := by
  intro v hv hn
  rw [h2] at hn ⊢
  exact h v hv hn
theorem pv_want_ways {g : ST} (hok : pv_ok n w n2 w2 B N M ch ph) (hw : pv_wys B w wb) (htk : pv_tk B w wb ph) {b a : Nat} (hb : b < B) (ha : a ∈ ph b) {r : Int32} (hr : r = 0 ∨ r = 1) :
    ∃ r' g', fX5_wantInBlock_L240 n w (pu_I b) (pu_I a) NF r 0 g = some (r', g') ∧ pv_wr r g r' g' ∧ (r' = 0 → ∀ j, wb b ≤ j → j < wb (b + 1) → g 7 (nn (w 21 (a * 60 + nn (w 15 j)))) = 0) := by
  obtain ⟨⟨_, _, hB⟩, _, ⟨_, _, hM21, hM⟩, _, _, _, hdp, _⟩ := hok
  have haM := hdp.1 b hb a ha
  have hm := hw.2.1 b hb
  have h120 := hw.2.2.1 (b + 1) (by omega)
  have hrun := pv_for (G := fun k i (s : Int32 × ST) => fX5_wantInBlock_L240 n w (pu_I b) (pu_I a) k s.1 i s.2) (hi := wb (b + 1) - wb b)
    (Inv := fun i (s : Int32 × ST) => pv_wr r g s.1 s.2 ∧ (s.1 = 0 → ∀ j, wb b ≤ j → j < wb b + i → g 7 (nn (w 21 (a * 60 + nn (w 15 j)))) = 0))
    (Q := fun (s : Int32 × ST) => pv_wr r g s.1 s.2 ∧ (s.1 = 0 → ∀ j, wb b ≤ j → j < wb (b + 1) → g 7 (nn (w 21 (a * 60 + nn (w 15 j)))) = 0))
    ?_ ?_ (wb (b + 1) - wb b) 0 NF (r, g) (by omega) (by have := pv_NF; omega) ⟨pv_wr_rf hr, fun _ j h1 h2 => by omega⟩
  · obtain ⟨t, h1, h2⟩ := hrun
    exact ⟨t.1, t.2, h1, h2⟩
  · rintro k i ⟨r1, g1⟩ hi ⟨h1, h2⟩
    have h1 : pv_wr r g r1 g1 := h1
    have h2 : r1 = 0 → _ := h2
    obtain ⟨p, hp, hp2, _⟩ := hw.2.2.2.1 b (wb b + i) hb (by omega) (by omega)
    have hx := htk b hb a ha (wb b + i) (by omega) (by omega)
    rw [hp2, pu_nn (by omega)] at hx
    have hb9 := pv_want_wr (g := g1) (v := w 21 (a * 60 + p)) (r := r1) hx h1.2.2.1
    refine ⟨(if (if g1 7 (nn (w 21 (a * 60 + p))) = 0 then (0 : Int32) else 1) = 0 then r1 else 1, upw g1 7 (nn (w 21 (a * 60 + p))) 0), ?_, pv_wr_tr h1 hb9.1, fun hz j hj1 hj2 => ?_⟩
    · show ((fX1_waysTo w (pu_I b)).bind fun (o_40 : Int32) => (if o_40 ≤ pu_I i then some (r1, g1) else ((fX1_wayFrom w (pu_I b) (pu_I i)).bind fun (o_43 : Int32) => ((fX1_take n w (pu_I a) o_43).bind fun (o_45 : Int32) => ((fX5_want g1 o_45).bind fun (o_47 : Int32 × ST) => (if (o_47.1) = 0 then (if r1 = 0 then (fX5_wantInBlock_J279 (fX5_wantInBlock_L240 n w (pu_I b) (pu_I a) k) (pu_I i) o_47 0) else (fX5_wantInBlock_J274 (fX5_wantInBlock_L240 n w (pu_I b) (pu_I a) k) (pu_I i) o_47)) else (fX5_wantInBlock_J274 (fX5_wantInBlock_L240 n w (pu_I b) (pu_I a) k) (pu_I i) o_47))))))) = _
      rw [pv_waysTo hB hw hb, Option.bind_some, if_neg (by rw [pu_le (by omega) (by omega)]; omega), pv_wayFrom hB hw hb (by omega), Option.bind_some, hp2, pv_take (by omega) (by omega), Option.bind_some, pv_want hx, Option.bind_some]
      unfold fX5_wantInBlock_J274 fX5_wantInBlock_J279
      show (if (if g1 7 (nn (w 21 (a * 60 + p))) = 0 then (0 : Int32) else 1) = 0 then _ else _) = _
      by_cases h8 : g1 7 (nn (w 21 (a * 60 + p))) = 0
      · rw [if_pos h8, if_pos rfl, if_pos rfl, pu_su]
        rcases h1.2.2.1 with rfl | rfl
        · rw [if_pos rfl]
        · rw [if_neg (by decide)]
      · rw [if_neg h8, if_neg (by decide), if_neg (by decide), pu_su]
    · have hz2 := hb9.1.2.2.2.1 hz
      have hz3 := h1.2.2.2.1 hz2.1
      by_cases hji : j < wb b + i
      · exact h2 hz2.1 j hj1 hji
      · have hj : j = wb b + i := by omega
        rw [hj, hp2, pu_nn (by omega), ← hz3.2, ← hz2.2]
        exact hb9.2
  · rintro k ⟨r1, g1⟩ ⟨h1, h2⟩
    refine ⟨(r1, g1), ?_, h1, fun hz j hj1 hj2 => h2 hz j hj1 (by omega)⟩
    show ((fX1_waysTo w (pu_I b)).bind fun (o_40 : Int32) => (if o_40 ≤ pu_I (wb (b + 1) - wb b) then some (r1, g1) else _)) = _
    rw [pv_waysTo hB hw hb, Option.bind_some, if_pos (Int32.le_refl _)]
/-- a block has what it wants -/
def pv_cb (w w2 g : ST) (ch ph : Nat → List Nat) (wb : Nat → Nat) (b : Nat) : Prop := (¬ w 9 b < 0 → g 7 (nn (w 9 b)) = 0) ∧ (∀ a ∈ ch b, pv_cs g w2 g a) ∧ (∀ a ∈ ph b, pv_cp w g wb b a)
theorem pv_cb_eq {g g0 : ST} {b : Nat} (h2 : g 2 = g0 2) (h7 : ∀ v, g 7 v = g0 7 v) (h : pv_cb w w2 g ch ph wb b) : pv_cb w w2 g0 ch ph wb b := by
  refine ⟨fun hn => by rw [← h7]; exact h.1 hn, fun a ha => pv_cs_eq h2 h7 (h.2.1 a ha), fun a ha => ?_⟩
  have h9 := h.2.2 a ha
  unfold pv_cp at h9 ⊢
  simp only [h7] at h9
  exact h9
theorem pv_wantInBlock {g : ST} (hok : pv_ok n w n2 w2 B N M ch ph) (hrg : pv_rg w2 B ch) (hw : pv_wys B w wb) (htk : pv_tk B w wb ph) (hev : ∀ b, b < B → ¬ w 9 b < 0 → ixb (w 9 b) 250 = true) (hg : pv_giv w2 B ch g) {b : Nat} (hb : b < B) :
    ∃ r g', fX5_wantInBlock g n w (pu_I b) n2 w2 = some (r, g') ∧ pv_wr 0 g r g' ∧ (r = 0 → pv_cb w w2 g ch ph wb b) := by
  obtain ⟨⟨_, _, hB⟩, ⟨_, _, _, _, hN6, hN⟩, ⟨hM19, hM20, hM21, hM⟩, hst, hd, hph, hdp, hix, _⟩ := id hok
  have hb31 : b < 2147483648 := by omega
  have hib : ixb (pu_I b) 60 = true := (pu_ix hb31).mpr (by omega)
  have hJ : ∀ (r0 : Int32) (g0 : ST), pv_wr 0 g r0 g0 → (r0 = 0 → ¬ w 9 b < 0 → g 7 (nn (w 9 b)) = 0) → ∃ r g', fX5_wantInBlock_J27 n w (pu_I b) n2 w2 r0 g0 = some (r, g') ∧ pv_wr 0 g r g' ∧ (r = 0 → pv_cb w w2 g ch ph wb b) := by
    intro r0 g0 h0 he
    obtain ⟨t, h1, h2, h3⟩ := pv_chl (G := fun k x (s : Int32 × ST) => fX5_wantInBlock_L42 n2 w2 k s.1 x s.2) (nx := w2 6)
      (Inv := fun done rem (s : Int32 × ST) => (∀ a ∈ rem, a ∈ ch b) ∧ (∀ a, a ∈ done ∨ a ∈ rem ↔ a ∈ ch b) ∧ pv_wr 0 g s.1 s.2 ∧ (s.1 = 0 → ∀ a ∈ done, pv_cs g w2 g a) ∧ (s.1 = 0 → r0 = 0))
      (Q := fun (s : Int32 × ST) => pv_wr 0 g s.1 s.2 ∧ (s.1 = 0 → (∀ a ∈ ch b, pv_cs g w2 g a) ∧ r0 = 0))
      (fun k a done rem s hI => by
        obtain ⟨i1, i2, i3, i4, i5⟩ := hI
        obtain ⟨r', g', h1, h2, h3⟩ := pv_want_step (g := s.2) hok hrg (pv_giv_2 (pv_wr_2 i3) hg) hb (i1 a List.mem_cons_self) i3.2.2.1 k
        refine ⟨(r', g'), h1, fun z hz => i1 z (List.mem_cons_of_mem _ hz), fun z => ?_, pv_wr_tr i3 h2, fun hz z hz2 => ?_, fun hz => i5 (h2.2.2.2.1 hz).1⟩
        · rw [← i2 z, List.mem_append, List.mem_singleton, List.mem_cons, or_assoc]
        · have hs0 := (h2.2.2.2.1 hz).1
          rcases List.mem_append.mp hz2 with h | h
          · exact i4 hs0 z h
          · rw [List.mem_singleton.mp h]
            exact pv_cs_eq (pv_wr_2 i3) (i3.2.2.2.1 hs0).2 (h3 hz))
      (fun k x done s hx hI => ⟨s, by
        show (if x < 0 then some (s.1, s.2) else _) = _
        rw [if_pos hx], hI.2.2.1, fun hz => ⟨fun a ha => hI.2.2.2.1 hz a (((hI.2.1 a).mpr ha).resolve_right (by simp)), hI.2.2.2.2 hz⟩⟩) (ch b) [] (w 4 b) NF (r0, g0) (hst.1 b hb) (by have := pv_len N (ch b) (hd.2.1 b hb) (hd.1 b hb); have := pv_NF; omega) ⟨fun a ha => ha, fun a => by simp, h0, fun _ a ha => (by cases ha), fun h => h⟩
    obtain ⟨t2, h4, h5, h6⟩ := pv_chl (G := fun k x (s : Int32 × ST) => fX5_wantInBlock_L217 n w (pu_I b) k s.1 x s.2) (nx := w 20)
      (Inv := fun done rem (s : Int32 × ST) => (∀ a ∈ rem, a ∈ ph b) ∧ (∀ a, a ∈ done ∨ a ∈ rem ↔ a ∈ ph b) ∧ pv_wr 0 g s.1 s.2 ∧ (s.1 = 0 → ∀ a ∈ done, pv_cp w g wb b a) ∧ (s.1 = 0 → t.1 = 0))
      (Q := fun (s : Int32 × ST) => pv_wr 0 g s.1 s.2 ∧ (s.1 = 0 → (∀ a ∈ ph b, pv_cp w g wb b a) ∧ t.1 = 0))
      (fun k a done rem s hI => by
        obtain ⟨i1, i2, i3, i4, i5⟩ := hI
        have ha := i1 a List.mem_cons_self
        have haM := hdp.1 b hb a ha
        have ha31 : a < 2147483648 := by omega
        have hx := hix b hb a ha
        have hnext : ∀ z, z ∈ done ++ [a] ∨ z ∈ rem ↔ z ∈ ph b := fun z => by
          rw [← i2 z, List.mem_append, List.mem_singleton, List.mem_cons, or_assoc]
        have h286 : ∀ r1 g1, fX5_wantInBlock_J286 (fX5_wantInBlock_L217 n w (pu_I b) k) n w (pu_I a) r1 g1 = fX5_wantInBlock_L217 n w (pu_I b) k r1 (w 20 a) g1 := by
          intro r1 g1
          unfold fX5_wantInBlock_J286
          rw [if_pos ((pu_ix ha31).mpr (by omega)), pu_nn ha31]
        have hstep : fX5_wantInBlock_L217 n w (pu_I b) (k + 1) s.1 (pu_I a) s.2 = (if s.2 7 (nn (w 19 a)) = 0 then ((fX5_wantInBlock_L240 n w (pu_I b) (pu_I a) NF s.1 0 s.2).bind fun (o240 : Int32 × ST) => fX5_wantInBlock_L217 n w (pu_I b) k o240.1 (w 20 a) o240.2) else fX5_wantInBlock_L217 n w (pu_I b) k s.1 (w 20 a) s.2) := by
          show (if pu_I a < 0 then some (s.1, s.2) else (if ixb (pu_I a) (n 19) = true then (if ixb (w 19 (nn (pu_I a))) 250 = true then (if s.2 7 (nn (w 19 (nn (pu_I a)))) = 0 then ((fX5_wantInBlock_L240 n w (pu_I b) (pu_I a) NF s.1 0 s.2).bind fun (o240 : Int32 × ST) => (fX5_wantInBlock_J286 (fX5_wantInBlock_L217 n w (pu_I b) k) n w (pu_I a) (o240.1) (o240.2))) else (fX5_wantInBlock_J286 (fX5_wantInBlock_L217 n w (pu_I b) k) n w (pu_I a) s.1 s.2)) else none) else none)) = _
          rw [if_neg (pu_ge ha31), if_pos ((pu_ix ha31).mpr (by omega)), pu_nn ha31, if_pos hx]
          simp only [h286]
        rw [hstep]
        by_cases hm : s.2 7 (nn (w 19 a)) = 0
        · obtain ⟨r', g', h1, h2, h3⟩ := pv_want_ways (g := s.2) hok hw htk hb ha i3.2.2.1
          refine ⟨(r', g'), by rw [if_pos hm, h1, Option.bind_some], fun z hz => i1 z (List.mem_cons_of_mem _ hz), hnext, pv_wr_tr i3 h2, fun hz z hz2 => ?_, fun hz => i5 (h2.2.2.2.1 hz).1⟩
          have hs0 := (h2.2.2.2.1 hz).1
          rcases List.mem_append.mp hz2 with h | h
          · exact i4 hs0 z h
          · rw [List.mem_singleton.mp h]
            intro _ j hj1 hj2
            rw [← (i3.2.2.2.1 hs0).2]
            exact h3 hz j hj1 hj2
        · refine ⟨s, by rw [if_neg hm], fun z hz => i1 z (List.mem_cons_of_mem _ hz), hnext, i3, fun hz z hz2 => ?_, i5⟩
          rcases List.mem_append.mp hz2 with h | h
          · exact i4 hz z h
          · rw [List.mem_singleton.mp h]
            intro hc
            rw [← (i3.2.2.2.1 hz).2] at hc
            exact absurd hc hm)
      (fun k x done s hx hI => ⟨s, by
        show (if x < 0 then some (s.1, s.2) else _) = _
        rw [if_pos hx], hI.2.2.1, fun hz => ⟨fun a ha => hI.2.2.2.1 hz a (((hI.2.1 a).mpr ha).resolve_right (by simp)), hI.2.2.2.2 hz⟩⟩) (ph b) [] (w 6 b) NF t (hph.1 b hb) (by have := pv_len M (ph b) (hdp.2.1 b hb) (hdp.1 b hb); have := pv_NF; omega) ⟨fun a ha => ha, fun a => by simp, h2, fun _ a ha => (by cases ha), fun h => h⟩
    have h1 : fX5_wantInBlock_L42 n2 w2 NF r0 (w 4 b) g0 = some t := h1
    have h4 : fX5_wantInBlock_L217 n w (pu_I b) NF t.1 (w 6 b) t.2 = some t2 := h4
    refine ⟨t2.1, t2.2, ?_, h5, fun hz => ?_⟩
    · unfold fX5_wantInBlock_J27
      rw [if_pos hib, pu_nn hb31, h1, Option.bind_some, if_pos hib, h4, Option.bind_some, if_pos h5.2.2.1]
    · have h7 := h6 hz
      have h8 := h3 h7.2
      exact ⟨he h8.2, h8.1, h7.1⟩
  unfold fX5_wantInBlock
  rw [if_pos hib, pu_nn hb31]
  by_cases h0 : w 9 b < 0
  · rw [if_pos h0]
    exact hJ 0 g (pv_wr_rf (Or.inl rfl)) fun _ c => absurd h0 c
  · have hx := hev b hb h0
    rw [if_neg h0, if_pos hib, pv_want hx, Option.bind_some]
    have h9 := pv_want_wr (g := g) (v := w 9 b) (r := 0) hx (Or.inl rfl)
    have hval : ∀ r1 : Int32, pv_wr 0 g r1 (upw g 7 (nn (w 9 b)) 0) → r1 = 0 → ¬ w 9 b < 0 → g 7 (nn (w 9 b)) = 0 := by
      intro r1 hw1 hz _
      rw [← (hw1.2.2.2.1 hz).2]
      exact h9.2
    show ∃ r g', (if (if g 7 (nn (w 9 b)) = 0 then (0 : Int32) else 1) = 0 then _ else _) = _ ∧ _
    have hw1 := h9.1
    by_cases h8 : g 7 (nn (w 9 b)) = 0
    · rw [if_pos h8, if_pos rfl] at hw1
      rw [if_pos h8, if_pos rfl]
      exact hJ 0 _ hw1 (hval 0 hw1)
    · rw [if_neg h8, if_neg (by decide)] at hw1
      rw [if_neg h8, if_neg (by decide)]
      exact hJ 1 _ hw1 (hval 1 hw1)
end DB
