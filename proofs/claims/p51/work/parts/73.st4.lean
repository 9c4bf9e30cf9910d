/-! pure side, stores 4: what kinds use, givers -/
def pv_b (b : Bool) : Int32 := if b = true then 1 else 0
theorem pv_b01 (b : Bool) : pv_b b = 0 ∨ pv_b b = 1 := by cases b <;> decide
theorem pv_b0 {b : Bool} : pv_b b = 0 ↔ b = false := by cases b <;> decide
theorem pv_le1 {k : Int32} : 1 ≤ k ↔ ¬ k < 1 := (Int32.not_lt).symm
theorem pv_isop (k : Int32) : fX11_isOperator k = some (pv_b (pu_isop k)) := by
  unfold fX11_isOperator fX11_isOperator_J15 fX11_isOperator_J16 pv_b pu_isop
  by_cases h1 : k < 1
  · rw [if_pos h1, if_pos (Or.inl rfl), if_neg]
    rw [decide_eq_true_iff]
    exact fun c => (pv_le1.mp c.1) h1
  · rw [if_neg h1]
    by_cases h2 : 16 < k
    · rw [if_pos h2, if_pos (Or.inl rfl), if_neg]
      rw [decide_eq_true_iff]
      exact fun c => (Int32.not_le.mpr h2) c.2
    · rw [if_neg h2, if_pos (Or.inr rfl), if_pos]
      rw [decide_eq_true_iff]
      exact ⟨pv_le1.mpr h1, Int32.not_lt.mp h2⟩
theorem pv_ul (k : Int32) : fX11_usesLeft k = some (pv_b (pu_ul k)) := by
  have hJ : fX11_usesLeft_J11 k = some (pv_b (decide (k = 25 ∨ k = 27))) := by
    unfold fX11_usesLeft_J11 fX11_usesLeft_J23 fX11_usesLeft_J28 pv_b
    by_cases h1 : k = 25
    · rw [if_pos h1, if_pos (Or.inr rfl), if_pos (by simp [h1])]
    · rw [if_neg h1]
      by_cases h2 : k = 27
      · rw [if_pos h2, if_pos (Or.inr rfl), if_pos (by simp [h2])]
      · rw [if_neg h2, if_pos (Or.inl rfl), if_neg (by simp [h1, h2])]
  unfold fX11_usesLeft pu_ul
  rw [hJ]
  by_cases h1 : k < 1
  · rw [if_pos h1]
    have : ¬ (1 ≤ k ∧ k ≤ 19) := fun c => (pv_le1.mp c.1) h1
    simp [this]
  · rw [if_neg h1]
    by_cases h2 : k ≤ 19
    · rw [if_pos h2]
      have : 1 ≤ k ∧ k ≤ 19 := ⟨pv_le1.mpr h1, h2⟩
      unfold fX11_usesLeft_J23 fX11_usesLeft_J28
      rw [if_pos (Or.inr rfl)]
      simp [this, pv_b]
    · rw [if_neg h2]
      simp [h2]
theorem pv_ur (k : Int32) : fX11_usesRight k = some (pv_b (pu_ur k)) := by
  unfold fX11_usesRight
  rw [pv_isop]
  show (if pv_b (pu_isop k) = 0 then _ else _) = _
  unfold fX11_usesRight_J13 fX11_usesRight_J18
  have he : pu_ur k = (pu_isop k || decide (k = 18)) := by
    unfold pu_ur pu_isop
    by_cases h1 : 1 ≤ k ∧ k ≤ 16
    · simp [h1]
    · simp [h1]
  rw [he]
  by_cases h1 : pu_isop k = true
  · rw [h1, if_neg (by decide), if_pos (Or.inr rfl)]
    rfl
  · have h1 : pu_isop k = false := by simpa using h1
    rw [h1, if_pos (by decide)]
    by_cases h2 : k = 18
    · rw [if_pos h2, if_pos (Or.inr rfl)]
      simp [h2, pv_b]
    · rw [if_neg h2, if_pos (Or.inl rfl)]
      simp [h2, pv_b]
/-- a loop over a chain that it doesn't change -/
theorem pv_chl {σ τ : Type} {G : Nat → Int32 → σ → Option τ} {nx : Nat → Int32} {Inv : List Nat → List Nat → σ → Prop} {Q : τ → Prop}
    (hs : ∀ n a done rem s, Inv done (a :: rem) s → ∃ s', G (n + 1) (pu_I a) s = G n (nx a) s' ∧ Inv (done ++ [a]) rem s')
    (he : ∀ n x done s, x < 0 → Inv done [] s → ∃ t, G (n + 1) x s = some t ∧ Q t) :
    ∀ (rem done : List Nat) (x : Int32) (k : Nat) (s : σ), pv_ch nx x rem → rem.length < k → Inv done rem s → ∃ t, G k x s = some t ∧ Q t := by
  intro rem
  induction rem with
  | nil =>
    intro done x k s hc hk hI
    obtain ⟨k', rfl⟩ : ∃ k', k = k' + 1 := ⟨k - 1, by simp at hk; omega⟩
    exact he k' x done s (pv_n1 hc) hI
  | cons a rem ih =>
    intro done x k s hc hk hI
    obtain ⟨k', rfl⟩ : ∃ k', k = k' + 1 := ⟨k - 1, by simp at hk; omega⟩
    obtain ⟨rfl, hc⟩ := hc
    obtain ⟨s', h1, h2⟩ := hs k' a done rem s hI
    rw [h1]
    exact ih (done ++ [a]) (nx a) k' s' hc (by simp at hk; omega) h2
/-- the flow that the stores hold -/
def pv_S (w2 : ST) (a : Nat) : pu_Stp := (w2 2 a, w2 3 a, w2 4 a, w2 5 a)
def pv_P (w : ST) (a : Nat) : pu_Phi := (w 19 a, fun p => w 21 (a * 60 + p))
def pv_F (w w2 : ST) (ch ph : Nat → List Nat) : pu_Flow := fun b => ((ph b).map (pv_P w), (ch b).map (pv_S w2), (w 8 b, w 9 b, w 10 b, w 11 b))
/-- the shape of a flow's stores: numbers of blocks, rooms, chains -/
def pv_ok (n : Nat → Nat) (w : ST) (n2 : Nat → Nat) (w2 : ST) (B N M : Nat) (ch ph : Nat → List Nat) : Prop :=
  (w 0 0 = pu_I B ∧ 0 < B ∧ B ≤ 60) ∧ (N ≤ n2 2 ∧ N ≤ n2 3 ∧ N ≤ n2 4 ∧ N ≤ n2 5 ∧ N ≤ n2 6 ∧ N < 50000) ∧ (M ≤ n 19 ∧ M ≤ n 20 ∧ M * 60 ≤ n 21 ∧ M < 50000) ∧
  pv_stc B w w2 ch ∧ pv_dis B N ch ∧ pv_phc B w ph ∧ pv_dis B M ph ∧
  (∀ b, b < B → ∀ a ∈ ph b, ixb (w 19 a) 250 = true) ∧ (∀ b, b < B → ∀ a ∈ ch b, w2 3 a < 0 ∨ ixb (w2 3 a) 250 = true)
def pv_giv (w2 : ST) (B : Nat) (ch : Nat → List Nat) (g : ST) : Prop := ∀ v, v < 250 → ¬ g 2 v < 0 → ∃ b a, b < B ∧ a ∈ ch b ∧ g 2 v = pu_I a ∧ w2 3 a = pu_I v
theorem pv_ixn {x : Int32} {n : Nat} (h : ixb x n = true) : ¬ x < 0 ∧ nn x < n := by
  unfold ixb at h
  rw [decide_eq_true_iff] at h
  refine ⟨?_, ?_⟩
  · rw [Int32.lt_iff_toInt_lt, Int32.toInt_zero]; omega
  · show x.toNatClampNeg < n
    rw [← Int32.toNat_toInt]
    omega
/-- findGivers: each giver is a step that gives the value -/
theorem pv_findGivers {g w w2 : ST} {n n2 : Nat → Nat} {B N M : Nat} {ch ph : Nat → List Nat} (hok : pv_ok n w n2 w2 B N M ch ph) :
    ∃ g', fX5_findGivers g n w n2 w2 = some g' ∧ pv_giv w2 B ch g' ∧ (∀ r, r ≠ 2 → r ≠ 3 → g' r = g r) := by
  obtain ⟨⟨hw0, _, hB⟩, ⟨_, hN3, _, _, hN6, hN⟩, ⟨hM19, hM20, _, hM⟩, hst, hd, hph, hdp, hix, hix2⟩ := hok
  obtain ⟨f1, a1, a2⟩ := pv_fill (n := 250) (f := g 2) (v := -1) (by decide)
  obtain ⟨f2, b1, b2⟩ := pv_fill (n := 250) (f := srw g 2 f1 3) (v := -1) (by decide)
  have hrun := pv_for (G := fun k i (s : ST) => fX5_findGivers_L18 n w n2 w2 k i s) (hi := B)
    (Inv := fun _ (s : ST) => pv_giv w2 B ch s ∧ (∀ r, r ≠ 2 → r ≠ 3 → s r = g r)) (Q := fun (s : ST) => pv_giv w2 B ch s ∧ (∀ r, r ≠ 2 → r ≠ 3 → s r = g r))
    ?_ ?_ B 0 NF (srw (srw g 2 f1) 3 f2) (by omega) (by have := pv_NF; omega) ⟨?_, fun r h2 h3 => by rw [pv_srw_n h3, pv_srw_n h2]⟩
  · obtain ⟨t, h1, h2⟩ := hrun
    refine ⟨t, ?_, h2⟩
    unfold fX5_findGivers
    have h1 : fX5_findGivers_L18 n w n2 w2 NF 0 (srw (srw g 2 f1) 3 f2) = some t := h1
    rw [a1, Option.bind_some, b1, Option.bind_some, h1, Option.bind_some]
  · intro k i s hi hI
    have hi31 : i < 2147483648 := by omega
    have hii : ixb (pu_I i) 60 = true := (pu_ix hi31).mpr (by omega)
    -- phis
    obtain ⟨s1, c1, c2⟩ := pv_chl (G := fun k x (s : ST) => fX5_findGivers_L33 n w (pu_I i) k x s) (nx := w 20) (Inv := fun _ rem (s : ST) => (∀ a ∈ rem, a < M ∧ ixb (w 19 a) 250 = true) ∧ pv_giv w2 B ch s ∧ (∀ r, r ≠ 2 → r ≠ 3 → s r = g r)) (Q := fun (s : ST) => pv_giv w2 B ch s ∧ (∀ r, r ≠ 2 → r ≠ 3 → s r = g r))
      (fun k a done rem s hI => by
        have ha := hI.1 a List.mem_cons_self
        have ha31 : a < 2147483648 := by omega
        refine ⟨upw s 3 (nn (w 19 a)) (pu_I i), ?_, fun z hz => hI.1 z (List.mem_cons_of_mem _ hz), ?_, fun r h2 h3 => by rw [pv_upw_n h3]; exact hI.2.2 r h2 h3⟩
        · show (if pu_I a < 0 then some s else (if ixb (pu_I a) (n 19) = true then (if ixb (w 19 (nn (pu_I a))) 250 = true then (lt9 (upw s 3 (nn (w 19 (nn (pu_I a)))) (pu_I i)) fun (w8 : ST) => (if ixb (pu_I a) (n 20) = true then ((fX5_findGivers_L33 n w (pu_I i) k) (w 20 (nn (pu_I a))) w8) else none)) else none) else none)) = _
          rw [if_neg (pu_ge ha31), if_pos ((pu_ix ha31).mpr (by omega)), pu_nn ha31, if_pos ha.2]
          simp only [lt9]
          rw [if_pos ((pu_ix ha31).mpr (by omega))]
        · intro v hv hg
          rw [pv_upw_n (q := 2) (r := 3) (by decide)] at hg ⊢
          exact hI.2.1 v hv hg)
      (fun k x done s hx hI => ⟨s, by
        show (if x < 0 then some s else _) = _
        rw [if_pos hx], hI.2⟩) (ph i) [] (w 6 i) NF s (hph.1 i hi) (by have := pv_len M (ph i) (hdp.2.1 i hi) (hdp.1 i hi); have := pv_NF; omega) ⟨fun a ha => ⟨hdp.1 i hi a ha, hix i hi a ha⟩, hI⟩
    obtain ⟨s2, d1, d2⟩ := pv_chl (G := fun k x (s : ST) => fX5_findGivers_L66 n2 w2 (pu_I i) k x s) (nx := w2 6) (Inv := fun _ rem (s : ST) => (∀ a ∈ rem, a < N ∧ a ∈ ch i ∧ (w2 3 a < 0 ∨ ixb (w2 3 a) 250 = true)) ∧ pv_giv w2 B ch s ∧ (∀ r, r ≠ 2 → r ≠ 3 → s r = g r)) (Q := fun (s : ST) => pv_giv w2 B ch s ∧ (∀ r, r ≠ 2 → r ≠ 3 → s r = g r))
      (fun k a done rem s hI => by
        have ha := hI.1 a List.mem_cons_self
        have ha31 : a < 2147483648 := by omega
        have hrest : ∀ z ∈ rem, z < N ∧ z ∈ ch i ∧ (w2 3 z < 0 ∨ ixb (w2 3 z) 250 = true) := fun z hz => hI.1 z (List.mem_cons_of_mem _ hz)
        by_cases h0 : w2 3 a < 0
        · refine ⟨s, ?_, hrest, hI.2⟩
          show (if pu_I a < 0 then some s else (if ixb (pu_I a) (n2 3) = true then (if w2 3 (nn (pu_I a)) < 0 then fX5_findGivers_J102 (fX5_findGivers_L66 n2 w2 (pu_I i) k) n2 w2 (pu_I a) s else _) else none)) = _
          rw [if_neg (pu_ge ha31), if_pos ((pu_ix ha31).mpr (by omega)), pu_nn ha31, if_pos h0]
          unfold fX5_findGivers_J102
          rw [if_pos ((pu_ix ha31).mpr (by omega)), pu_nn ha31]
        · have hx := ha.2.2.resolve_left h0
          refine ⟨upw (upw s 2 (nn (w2 3 a)) (pu_I a)) 3 (nn (w2 3 a)) (pu_I i), ?_, hrest, ?_, fun r h2 h3 => by rw [pv_upw_n h3, pv_upw_n h2]; exact hI.2.2 r h2 h3⟩
          · show (if pu_I a < 0 then some s else (if ixb (pu_I a) (n2 3) = true then (if w2 3 (nn (pu_I a)) < 0 then _ else (if ixb (w2 3 (nn (pu_I a))) 250 = true then (lt9 (upw s 2 (nn (w2 3 (nn (pu_I a)))) (pu_I a)) fun (w16 : ST) => (if ixb (w2 3 (nn (pu_I a))) 250 = true then (lt9 (upw w16 3 (nn (w2 3 (nn (pu_I a)))) (pu_I i)) fun (w18 : ST) => (fX5_findGivers_J102 (fX5_findGivers_L66 n2 w2 (pu_I i) k) n2 w2 (pu_I a) w18)) else none)) else none)) else none)) = _
            rw [if_neg (pu_ge ha31), if_pos ((pu_ix ha31).mpr (by omega)), pu_nn ha31, if_neg h0, if_pos hx]
            simp only [lt9]
            rw [if_pos hx]
            unfold fX5_findGivers_J102
            rw [if_pos ((pu_ix ha31).mpr (by omega)), pu_nn ha31]
          · intro v hv hg
            rw [pv_upw_n (q := 2) (r := 3) (by decide)] at hg ⊢
            rw [pv_upw] at hg ⊢
            by_cases hvx : v = nn (w2 3 a)
            · rw [if_pos ⟨rfl, hvx⟩] at hg ⊢
              refine ⟨i, a, hi, ha.2.1, rfl, ?_⟩
              rw [hvx]
              exact pu_of (pv_ixn hx).1
            · rw [if_neg (fun c => hvx c.2)] at hg ⊢
              exact hI.2.1 v hv hg)
      (fun k x done s hx hI => ⟨s, by
        show (if x < 0 then some s else _) = _
        rw [if_pos hx], hI.2⟩) (ch i) [] (w 4 i) NF s1 (hst.1 i hi) (by have := pv_len N (ch i) (hd.2.1 i hi) (hd.1 i hi); have := pv_NF; omega) ⟨fun a ha => ⟨hd.1 i hi a ha, ha, hix2 i hi a ha⟩, c2⟩
    refine ⟨s2, ?_, d2⟩
    show (if w 0 0 ≤ pu_I i then some s else (if ixb (pu_I i) 60 = true then ((fX5_findGivers_L33 n w (pu_I i) NF (w 6 (nn (pu_I i))) s).bind fun (o33 : ST) => (if ixb (pu_I i) 60 = true then ((fX5_findGivers_L66 n2 w2 (pu_I i) NF (w 4 (nn (pu_I i))) o33).bind fun (o66 : ST) => ((fX5_findGivers_L18 n w n2 w2 k) (pu_I i + 1) o66)) else none)) else none)) = _
    have c1 : fX5_findGivers_L33 n w (pu_I i) NF (w 6 i) s = some s1 := c1
    have d1 : fX5_findGivers_L66 n2 w2 (pu_I i) NF (w 4 i) s1 = some s2 := d1
    rw [hw0, if_neg (by rw [pu_le (by omega) hi31]; omega), if_pos hii, pu_nn hi31, c1]
    show (if ixb (pu_I i) 60 = true then ((fX5_findGivers_L66 n2 w2 (pu_I i) NF (w 4 i) s1).bind fun (o66 : ST) => ((fX5_findGivers_L18 n w n2 w2 k) (pu_I i + 1) o66)) else none) = _
    rw [if_pos hii, d1, pu_su]
    rfl
  · intro k s hI
    refine ⟨s, ?_, hI⟩
    show (if w 0 0 ≤ pu_I B then some s else _) = _
    rw [hw0, if_pos (Int32.le_refl _)]
  · intro v hv hg
    rw [pv_srw_n (q := 2) (r := 3) (by decide), pv_srw_s, a2 v hv] at hg
    exact absurd pu_m1 hg
