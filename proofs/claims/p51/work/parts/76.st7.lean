/-! pure side, stores 7: dropping -/
def pv_cnt (g : ST) : Nat := ((List.range 250).filter (fun v => decide (g 7 v ≠ 0))).length
theorem pv_flt {p q : Nat → Bool} : ∀ (l : List Nat), (∀ x ∈ l, q x = true → p x = true) → (l.filter q).length ≤ (l.filter p).length := by
  intro l
  induction l with
  | nil => intro _; exact Nat.le_refl _
  | cons a l ih =>
    intro h
    have h1 := ih (fun x hx => h x (List.mem_cons_of_mem _ hx))
    rw [List.filter_cons, List.filter_cons]
    by_cases hq : q a = true
    · rw [if_pos hq, if_pos (h a List.mem_cons_self hq)]
      simp only [List.length_cons]
      omega
    · rw [if_neg hq]
      by_cases hp : p a = true
      · rw [if_pos hp]
        simp only [List.length_cons]
        omega
      · rw [if_neg hp]
        exact h1
theorem pv_flt_lt {p q : Nat → Bool} : ∀ (l : List Nat), (∀ x ∈ l, q x = true → p x = true) → (∃ x ∈ l, p x = true ∧ q x = false) → (l.filter q).length < (l.filter p).length := by
  intro l
  induction l with
  | nil => intro _ h; obtain ⟨x, hx, _⟩ := h; cases hx
  | cons a l ih =>
    intro h hex
    have hl : ∀ x ∈ l, q x = true → p x = true := fun x hx => h x (List.mem_cons_of_mem _ hx)
    rw [List.filter_cons, List.filter_cons]
    obtain ⟨x, hx, hp, hq⟩ := hex
    rcases List.mem_cons.mp hx with rfl | hx
    · rw [if_neg (by rw [hq]; decide), if_pos hp]
      have := pv_flt l hl
      simp only [List.length_cons]
      omega
    · have h1 := ih hl ⟨x, hx, hp, hq⟩
      by_cases hqa : q a = true
      · rw [if_pos hqa, if_pos (h a List.mem_cons_self hqa)]
        simp only [List.length_cons]
        omega
      · rw [if_neg hqa]
        by_cases hpa : p a = true
        · rw [if_pos hpa]
          simp only [List.length_cons]
          omega
        · rw [if_neg hpa]
          exact h1
theorem pv_cnt_lt {r' : Int32} {g g' : ST} (h : pv_wr 0 g r' g') (hn : r' ≠ 0) : pv_cnt g' < pv_cnt g := by
  obtain ⟨v, h1, h2, h3⟩ := h.2.2.2.2 hn rfl
  refine pv_flt_lt _ (fun x _ hx => ?_) ⟨v, List.mem_range.mpr h1, by simpa using h2, by simpa using h3⟩
  have hx : g' 7 x ≠ 0 := by simpa using hx
  rcases h.2.1 x with h9 | h9
  · exact absurd h9 hx
  · rw [h9] at hx
    simpa using hx
theorem pv_cnt_le (g : ST) : pv_cnt g ≤ 250 := by
  unfold pv_cnt
  have := List.length_filter_le (fun v => decide (g 7 v ≠ 0)) (List.range 250)
  rw [List.length_range] at this
  exact this
/-- a loop that counts down -/
theorem pv_down {σ τ : Type} {G : Nat → Int32 → σ → Option τ} {Inv : Nat → σ → Prop} {Q : τ → Prop}
    (hs : ∀ n k s, Inv (k + 1) s → ∃ s', G (n + 1) (pu_I k) s = G n (pu_I k + (-1)) s' ∧ Inv k s')
    (he : ∀ n x s, x < 0 → Inv 0 s → ∃ t, G (n + 1) x s = some t ∧ Q t) :
    ∀ (k n : Nat) (s : σ), k < n → k < 2147483648 → Inv k s → ∃ t, G n (pu_I k + (-1)) s = some t ∧ Q t := by
  intro k
  induction k with
  | zero =>
    intro n s hn _ hI
    obtain ⟨n', rfl⟩ : ∃ n', n = n' + 1 := ⟨n - 1, by omega⟩
    exact he n' _ s (by decide) hI
  | succ k ih =>
    intro n s hn hk hI
    obtain ⟨n', rfl⟩ : ∃ n', n = n' + 1 := ⟨n - 1, by omega⟩
    have e : pu_I (k + 1) + (-1) = pu_I k := by
      rw [← pu_su, Int32.add_assoc]
      show pu_I k + 0 = _
      exact Int32.add_zero _
    rw [e]
    obtain ⟨s', h1, h2⟩ := hs n' k s hI
    rw [h1]
    exact ih n' s' (by omega) (by omega) h2
section DC
variable {n n2 : Nat → Nat} {w w2 : ST} {B N M : Nat} {ch ph : Nat → List Nat} {wb : Nat → Nat}
theorem pv_drop_pass {g : ST} (hok : pv_ok n w n2 w2 B N M ch ph) (hrg : pv_rg w2 B ch) (hw : pv_wys B w wb) (htk : pv_tk B w wb ph) (hev : ∀ b, b < B → ¬ w 9 b < 0 → ixb (w 9 b) 250 = true) (hg : pv_giv w2 B ch g) :
    ∃ r g', fX5_dropUnwanted_L37 n w n2 w2 NF 0 ((w 0 0) - 1) g = some (r, g') ∧ pv_wr 0 g r g' ∧ (r = 0 → ∀ b, b < B → pv_cb w w2 g ch ph wb b) := by
  obtain ⟨⟨hw0, hB0, hB⟩, _⟩ := id hok
  have hrun := pv_down (G := fun k i (s : Int32 × ST) => fX5_dropUnwanted_L37 n w n2 w2 k s.1 i s.2)
    (Inv := fun k (s : Int32 × ST) => k ≤ B ∧ pv_wr 0 g s.1 s.2 ∧ (s.1 = 0 → ∀ b, b < B → k ≤ b → pv_cb w w2 g ch ph wb b)) (Q := fun (s : Int32 × ST) => pv_wr 0 g s.1 s.2 ∧ (s.1 = 0 → ∀ b, b < B → pv_cb w w2 g ch ph wb b))
    ?_ ?_ B NF (0, g) (by have := pv_NF; omega) (by omega) ⟨Nat.le_refl _, pv_wr_rf (Or.inl rfl), fun _ b h1 h2 => by omega⟩
  · obtain ⟨t, h1, h2⟩ := hrun
    refine ⟨t.1, t.2, ?_, h2⟩
    rw [hw0, Int32.sub_eq_add_neg]
    exact h1
  · rintro k i ⟨r1, g1⟩ ⟨hi, h1, h2⟩
    have h1 : pv_wr 0 g r1 g1 := h1
    obtain ⟨o, g2, h3, h4, h5⟩ := pv_wantInBlock (g := g1) hok hrg hw htk hev (pv_giv_2 (pv_wr_2 h1) hg) (b := i) (by omega)
    have hor := pv_or h4.2.2.1 h1.2.2.1 h4
    refine ⟨(if o = 0 then r1 else 1, g2), ?_, by omega, pv_wr_tr h1 hor, fun hz b hb hib => ?_⟩
    · show (if pu_I i < 0 then some (r1, g1) else ((fX5_wantInBlock g1 n w (pu_I i) n2 w2).bind fun (o_6 : Int32 × ST) => (if (o_6.1) = 0 then (fX5_dropUnwanted_J54 (fX5_dropUnwanted_L37 n w n2 w2 k) (pu_I i) o_6 r1) else (fX5_dropUnwanted_J54 (fX5_dropUnwanted_L37 n w n2 w2 k) (pu_I i) o_6 1)))) = _
      rw [if_neg (pu_ge (by omega)), h3, Option.bind_some]
      unfold fX5_dropUnwanted_J54
      show (if o = 0 then _ else _) = _
      by_cases h9 : o = 0
      · rw [if_pos h9, if_pos h9]
      · rw [if_neg h9, if_neg h9]
    · have hz2 := hor.2.2.2.1 hz
      have ho : o = 0 := by
        by_cases h9 : o = 0
        · exact h9
        · rw [if_neg h9] at hz
          exact absurd hz (show ¬ (1 : Int32) = 0 by decide)
      by_cases hbi : b = i
      · rw [hbi]
        exact pv_cb_eq (pv_wr_2 h1) (h1.2.2.2.1 hz2.1).2 (h5 ho)
      · exact h2 hz2.1 b hb (by omega)
  · rintro k x ⟨r1, g1⟩ hx ⟨_, h1, h2⟩
    refine ⟨(r1, g1), ?_, h1, fun hz b hb => h2 hz b hb (Nat.zero_le _)⟩
    show (if x < 0 then some (r1, g1) else _) = _
    rw [if_pos hx]
theorem pv_drop_end {k : Nat} {x : Int32} {g : ST} : fX5_dropUnwanted_L17 n w n2 w2 (k + 1) 0 x g = some g := by
  unfold fX5_dropUnwanted_L17
  exact if_pos rfl
theorem pv_drop_loop (hok : pv_ok n w n2 w2 B N M ch ph) (hrg : pv_rg w2 B ch) (hw : pv_wys B w wb) (htk : pv_tk B w wb ph) (hev : ∀ b, b < B → ¬ w 9 b < 0 → ixb (w 9 b) 250 = true) :
    ∀ (c : Nat) (g : ST) (k j : Nat), pv_giv w2 B ch g → pv_cnt g ≤ c → c + 1 < k → j + c < 1000000 →
      ∃ g', fX5_dropUnwanted_L17 n w n2 w2 k 1 (pu_I j) g = some g' ∧ (∀ q, q ≠ 7 → g' q = g q) ∧ (∀ v, g' 7 v = 0 ∨ g' 7 v = g 7 v) ∧ (∀ b, b < B → pv_cb w w2 g' ch ph wb b) := by
  intro c
  induction c with
  | zero =>
    intro g k j hg hc hk hj
    obtain ⟨k', rfl⟩ : ∃ k', k = k' + 2 := ⟨k - 2, by omega⟩
    obtain ⟨r, g', h1, h2, h3⟩ := pv_drop_pass hok hrg hw htk hev hg
    have hr : r = 0 := by
      by_cases h9 : r = 0
      · exact h9
      · have := pv_cnt_lt h2 h9
        omega
    subst hr
    have h7 := (h2.2.2.2.1 rfl).2
    refine ⟨g', ?_, h2.1, h2.2.1, fun b hb => pv_cb_eq (pv_wr_2 h2).symm (fun v => (h7 v).symm) (h3 rfl b hb)⟩
    show (if (1 : Int32) = 0 then some g else (if 1000000 ≤ pu_I j then some g else ((fX5_dropUnwanted_L37 n w n2 w2 NF 0 ((w 0 0) - 1) g).bind fun (o37 : Int32 × ST) => ((fX5_dropUnwanted_L17 n w n2 w2 (k' + 1)) (o37.1) (pu_I j + 1) (o37.2))))) = _
    rw [if_neg (by decide), show (1000000 : Int32) = pu_I 1000000 from rfl, if_neg (by rw [pu_le (by omega) (by omega)]; omega), h1, Option.bind_some]
    exact pv_drop_end
  | succ c ih =>
    intro g k j hg hc hk hj
    obtain ⟨k', rfl⟩ : ∃ k', k = k' + 2 := ⟨k - 2, by omega⟩
    obtain ⟨r, g1, h1, h2, h3⟩ := pv_drop_pass hok hrg hw htk hev hg
    have hstep : fX5_dropUnwanted_L17 n w n2 w2 (k' + 2) 1 (pu_I j) g = fX5_dropUnwanted_L17 n w n2 w2 (k' + 1) r (pu_I (j + 1)) g1 := by
      show (if (1 : Int32) = 0 then some g else (if 1000000 ≤ pu_I j then some g else ((fX5_dropUnwanted_L37 n w n2 w2 NF 0 ((w 0 0) - 1) g).bind fun (o37 : Int32 × ST) => ((fX5_dropUnwanted_L17 n w n2 w2 (k' + 1)) (o37.1) (pu_I j + 1) (o37.2))))) = _
      rw [if_neg (by decide), show (1000000 : Int32) = pu_I 1000000 from rfl, if_neg (by rw [pu_le (by omega) (by omega)]; omega), h1, Option.bind_some, pu_su]
    rw [hstep]
    by_cases h9 : r = 0
    · subst h9
      have h7 := (h2.2.2.2.1 rfl).2
      refine ⟨g1, ?_, h2.1, h2.2.1, fun b hb => pv_cb_eq (pv_wr_2 h2).symm (fun v => (h7 v).symm) (h3 rfl b hb)⟩
      exact pv_drop_end
    · have hr1 : r = 1 := h2.2.2.1.resolve_left h9
      subst hr1
      have hlt := pv_cnt_lt h2 h9
      obtain ⟨g', a1, a2, a3, a4⟩ := ih g1 (k' + 1) (j + 1) (pv_giv_2 (pv_wr_2 h2) hg) (by omega) (by omega) (by omega)
      refine ⟨g', a1, fun q hq => by rw [a2 q hq, h2.1 q hq], fun v => ?_, a4⟩
      rcases a3 v with h | h
      · exact Or.inl h
      · rw [h]; exact h2.2.1 v
theorem pv_keep {g : ST} (hok : pv_ok n w n2 w2 B N M ch ph) (hcg : ∀ b, b < B → ∀ a ∈ ch b, w2 2 a = 20 → ¬ w2 3 a < 0) :
    ∃ g', fX5_keepUndroppable g w n2 w2 = some g' ∧ (∀ q, q ≠ 7 → g' q = g q) ∧ (∀ v, g' 7 v = 0 ∨ g' 7 v = g 7 v) ∧ (∀ b, b < B → ∀ a ∈ ch b, w2 2 a = 20 → g' 7 (nn (w2 3 a)) = 0) ∧ (∀ v, g' 7 v = 0 → g 7 v = 0 ∨ ∃ b a, b < B ∧ a ∈ ch b ∧ w2 2 a = 20 ∧ v = nn (w2 3 a)) := by
  obtain ⟨⟨hw0, hB0, hB⟩, ⟨hN2, hN3, _, _, hN6, hN⟩, _, hst, hd, _, _, _, hix2⟩ := id hok
  have hrun := pv_for (G := fun k i (s : ST) => fX5_keepUndroppable_L2 w n2 w2 k i s) (hi := B)
    (Inv := fun i (s : ST) => (∀ q, q ≠ 7 → s q = g q) ∧ (∀ v, s 7 v = 0 ∨ s 7 v = g 7 v) ∧ (∀ b, b < i → ∀ a ∈ ch b, w2 2 a = 20 → s 7 (nn (w2 3 a)) = 0) ∧ (∀ v, s 7 v = 0 → g 7 v = 0 ∨ ∃ b a, b < B ∧ a ∈ ch b ∧ w2 2 a = 20 ∧ v = nn (w2 3 a)))
    (Q := fun (s : ST) => (∀ q, q ≠ 7 → s q = g q) ∧ (∀ v, s 7 v = 0 ∨ s 7 v = g 7 v) ∧ (∀ b, b < B → ∀ a ∈ ch b, w2 2 a = 20 → s 7 (nn (w2 3 a)) = 0) ∧ (∀ v, s 7 v = 0 → g 7 v = 0 ∨ ∃ b a, b < B ∧ a ∈ ch b ∧ w2 2 a = 20 ∧ v = nn (w2 3 a)))
    ?_ ?_ B 0 NF g (by omega) (by have := pv_NF; omega) ⟨fun _ _ => rfl, fun _ => Or.inr rfl, fun b hb => absurd hb (Nat.not_lt_zero _), fun v hv => Or.inl hv⟩
  · obtain ⟨t, h1, h2⟩ := hrun
    refine ⟨t, ?_, h2⟩
    have h1 : fX5_keepUndroppable_L2 w n2 w2 NF 0 g = some t := h1
    unfold fX5_keepUndroppable
    rw [h1, Option.bind_some]
  · rintro k i s hi ⟨i1, i2, i3, i4⟩
    have hi31 : i < 2147483648 := by omega
    obtain ⟨t, h1, h2⟩ := pv_chl (G := fun k x (s : ST) => fX5_keepUndroppable_L17 n2 w2 k x s) (nx := w2 6)
      (Inv := fun done rem (s : ST) => (∀ a, a ∈ done ∨ a ∈ rem ↔ a ∈ ch i) ∧ (∀ q, q ≠ 7 → s q = g q) ∧ (∀ v, s 7 v = 0 ∨ s 7 v = g 7 v) ∧ (∀ b, b < i → ∀ a ∈ ch b, w2 2 a = 20 → s 7 (nn (w2 3 a)) = 0) ∧ (∀ a ∈ done, w2 2 a = 20 → s 7 (nn (w2 3 a)) = 0) ∧ (∀ v, s 7 v = 0 → g 7 v = 0 ∨ ∃ b a, b < B ∧ a ∈ ch b ∧ w2 2 a = 20 ∧ v = nn (w2 3 a)))
      (Q := fun (s : ST) => (∀ q, q ≠ 7 → s q = g q) ∧ (∀ v, s 7 v = 0 ∨ s 7 v = g 7 v) ∧ (∀ b, b < i + 1 → ∀ a ∈ ch b, w2 2 a = 20 → s 7 (nn (w2 3 a)) = 0) ∧ (∀ v, s 7 v = 0 → g 7 v = 0 ∨ ∃ b a, b < B ∧ a ∈ ch b ∧ w2 2 a = 20 ∧ v = nn (w2 3 a)))
      (fun k a done rem s hI => by
        obtain ⟨j1, j2, j3, j4, j5, j6⟩ := hI
        have ha : a ∈ ch i := (j1 a).mp (Or.inr List.mem_cons_self)
        have haN := hd.1 i hi a ha
        have ha31 : a < 2147483648 := by omega
        have hnext : ∀ z, z ∈ done ++ [a] ∨ z ∈ rem ↔ z ∈ ch i := fun z => by
          rw [← j1 z, List.mem_append, List.mem_singleton, List.mem_cons, or_assoc]
        have hform : fX5_keepUndroppable_L17 n2 w2 (k + 1) (pu_I a) s = (if w2 2 a = 20 then (fX5_want s (w2 3 a)).bind (fun (o_8 : Int32 × ST) => fX5_keepUndroppable_L17 n2 w2 k (w2 6 a) o_8.2) else fX5_keepUndroppable_L17 n2 w2 k (w2 6 a) s) := by
          show (if pu_I a < 0 then some s else (if ixb (pu_I a) (n2 2) = true then (if (w2 2 (nn (pu_I a))) = 20 then (if ixb (pu_I a) (n2 3) = true then ((fX5_want s (w2 3 (nn (pu_I a)))).bind fun (o_8 : Int32 × ST) => (fX5_keepUndroppable_J49 (fX5_keepUndroppable_L17 n2 w2 k) n2 w2 (pu_I a) (o_8.2))) else none) else (fX5_keepUndroppable_J49 (fX5_keepUndroppable_L17 n2 w2 k) n2 w2 (pu_I a) s)) else none)) = _
          rw [if_neg (pu_ge ha31), if_pos ((pu_ix ha31).mpr (by omega)), if_pos ((pu_ix ha31).mpr (by omega)), pu_nn ha31]
          have h49 : ∀ s0, fX5_keepUndroppable_J49 (fX5_keepUndroppable_L17 n2 w2 k) n2 w2 (pu_I a) s0 = fX5_keepUndroppable_L17 n2 w2 k (w2 6 a) s0 := by
            intro s0
            unfold fX5_keepUndroppable_J49
            rw [if_pos ((pu_ix ha31).mpr (by omega)), pu_nn ha31]
          simp only [h49]
        rw [hform]
        by_cases h20 : w2 2 a = 20
        · have hx := (hix2 i hi a ha).resolve_left (hcg i hi a ha h20)
          have hup : ∀ v, upw s 7 (nn (w2 3 a)) 0 7 v = if v = nn (w2 3 a) then 0 else s 7 v := by
            intro v
            rw [pv_upw]
            by_cases h9 : v = nn (w2 3 a)
            · rw [if_pos ⟨rfl, h9⟩, if_pos h9]
            · rw [if_neg (fun c => h9 c.2), if_neg h9]
          have hze : ∀ v, s 7 v = 0 → upw s 7 (nn (w2 3 a)) 0 7 v = 0 := by
            intro v hv
            rw [hup]
            by_cases h9 : v = nn (w2 3 a)
            · rw [if_pos h9]
            · rw [if_neg h9]; exact hv
          refine ⟨upw s 7 (nn (w2 3 a)) 0, by rw [if_pos h20, pv_want hx, Option.bind_some], hnext, fun q hq => by rw [pv_upw_n hq]; exact j2 q hq, fun v => ?_, fun b hb z hz h9 => hze _ (j4 b hb z hz h9), fun z hz h9 => ?_, fun v hv => ?_⟩
          · rw [hup]
            by_cases h9 : v = nn (w2 3 a)
            · rw [if_pos h9]; exact Or.inl rfl
            · rw [if_neg h9]; exact j3 v
          · rcases List.mem_append.mp hz with h | h
            · exact hze _ (j5 z h h9)
            · rw [List.mem_singleton.mp h, hup, if_pos rfl]
          · rw [hup] at hv
            by_cases h9 : v = nn (w2 3 a)
            · exact Or.inr ⟨i, a, hi, ha, h20, h9⟩
            · rw [if_neg h9] at hv
              exact j6 v hv
        · refine ⟨s, by rw [if_neg h20], hnext, j2, j3, j4, fun z hz h9 => ?_, j6⟩
          rcases List.mem_append.mp hz with h | h
          · exact j5 z h h9
          · rw [List.mem_singleton.mp h] at h9
            exact absurd h9 h20)
      (fun k x done s hx hI => ⟨s, by
        show (if x < 0 then some s else _) = _
        rw [if_pos hx], hI.2.1, hI.2.2.1, fun b hb a ha h20 => by
          by_cases hbi : b = i
          · rw [hbi] at ha
            exact hI.2.2.2.2.1 a (((hI.1 a).mpr ha).resolve_right (by simp)) h20
          · exact hI.2.2.2.1 b (by omega) a ha h20, hI.2.2.2.2.2⟩) (ch i) [] (w 4 i) NF s (hst.1 i hi) (by have := pv_len N (ch i) (hd.2.1 i hi) (hd.1 i hi); have := pv_NF; omega) ⟨fun a => by simp, i1, i2, i3, fun a ha => (by cases ha), i4⟩
    refine ⟨t, ?_, h2⟩
    have h1 : fX5_keepUndroppable_L17 n2 w2 NF (w 4 i) s = some t := h1
    show (if (w 0 0) ≤ pu_I i then some s else (if ixb (pu_I i) 60 = true then ((fX5_keepUndroppable_L17 n2 w2 NF (w 4 (nn (pu_I i))) s).bind fun (o17 : ST) => ((fX5_keepUndroppable_L2 w n2 w2 k) (pu_I i + 1) o17)) else none)) = _
    rw [hw0, if_neg (by rw [pu_le (by omega) hi31]; omega), if_pos ((pu_ix hi31).mpr (by omega)), pu_nn hi31, h1, Option.bind_some, pu_su]
  · rintro k s ⟨i1, i2, i3, i4⟩
    refine ⟨s, ?_, i1, i2, i3, i4⟩
    show (if w 0 0 ≤ pu_I B then some s else _) = _
    rw [hw0, if_pos (Int32.le_refl _)]
end DC
