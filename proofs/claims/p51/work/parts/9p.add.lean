/-! pure side, stores 46: a step more -/
theorem pv_copyOf {R m : Nat} {f : RI} (hm : R < m) (h : m < 1000000) : ∃ f', fJ7_copyOf_59c91 R f (pu_I m) = some (m, f') ∧ ∀ i, i < R → f' i = f i := by
  have hnn : nn (pu_I m) = m := pu_nn (by omega)
  have hlt : ¬ pu_I m < Int32.ofNat R := by
    show ¬ pu_I m < pu_I R
    rw [pu_lt (by omega) (by omega)]
    omega
  have hne : ¬ pu_I m = Int32.ofNat R := fun c => by
    have := pu_inj (a := m) (b := R) (by omega) (by omega) c
    omega
  have hck : nck (pu_I m) = true := by
    unfold nck
    exact decide_eq_true ⟨pu_ge (by omega), by rw [hnn]; omega⟩
  have hRn : nn (Int32.ofNat R) = R := pu_nn (by omega)
  have hz : nn (0 : Int32) = 0 := rfl
  have hc : cpk 0 0 (if pu_I m < Int32.ofNat R then pu_I m else Int32.ofNat R) R (nn (pu_I m)) = true := by
    rw [if_neg hlt, hnn]
    unfold cpk
    rw [decide_eq_true_iff, hz, hRn]
    exact ⟨by decide, by decide, pu_ge (by omega), by omega, by omega⟩
  refine ⟨va_cpy f (fun _ => 0) 0 0 R, ?_, fun i hi => ?_⟩
  · unfold fJ7_copyOf_59c91
    rw [if_neg hne, if_pos hck, if_pos hc, if_neg hlt, hnn, hz, hRn]
    simp only [lt9]
  · unfold va_cpy
    rw [if_pos ⟨Nat.zero_le _, by omega⟩, Nat.sub_zero, Nat.zero_add]
theorem pv_ofl {N R : Nat} (hN : N < 1000000) (hR : R < 1000000) : pu_I N < Int32.ofNat R ↔ N < R := pu_lt (by omega) (by omega)
theorem pv_half {N : Nat} (hN : N < 1000000) : pu_I N / 2 = pu_I (N / 2) := by
  rw [← Int32.toInt_inj, Int32.toInt_div_of_ne_right _ _ (by decide), pu_ti (by omega), pu_ti (by omega)]
  show ((N : Int)).tdiv 2 = _
  rw [Int.tdiv_eq_ediv_of_nonneg (by omega)]
  omega
theorem pv_stn (n : Nat → Nat) (r x q : Nat) : stn n r x q = if q = r then x else n q := rfl
theorem pv_add9 {n2 : Nat → Nat} {w2 : ST} {N R : Nat} (hc : w2 0 0 = pu_I N) (hR : pv_sR n2 R) (hNR : N ≤ R) (hR2 : R < 100000) (k gv lf rt : Int32) :
    ∃ w2' n2' R', fX9_add n2 w2 k gv lf rt = some (pu_I N, w2', n2') ∧ w2' 0 0 = pu_I (N + 1) ∧ (∀ i, i ≠ 0 → w2' 0 i = w2 0 i) ∧ (w2' 2 N = k ∧ w2' 3 N = gv ∧ w2' 4 N = lf ∧ w2' 5 N = rt ∧ w2' 6 N < 0) ∧
      (∀ r i, r ≠ 0 → i < N → w2' r i = w2 r i) ∧ (∀ r, r ≠ 0 → r ≠ 2 → r ≠ 3 → r ≠ 4 → r ≠ 5 → r ≠ 6 → w2' r = w2 r) ∧ pv_sR n2' R' ∧ N + 1 ≤ R' ∧ (R' = R ∨ R' = N + N / 2 + 1) ∧ (∀ r, r ≠ 2 → r ≠ 3 → r ≠ 4 → r ≠ 5 → r ≠ 6 → n2' r = n2 r) := by
  obtain ⟨q2, q3, q4, q5, q6⟩ := id hR
  -- the rows are long enough: the step is laid
  have hlay : ∀ (z : ST) (m : Nat → Nat) (R' : Nat), z 0 0 = pu_I N → pv_sR m R' → N + 1 ≤ R' → fX9_add_J92 k gv lf rt z m = some (pu_I N, upw (upw (upw (upw (upw (upw z 2 N k) 3 N gv) 4 N lf) 5 N rt) 6 N (-1)) 0 0 (pu_I (N + 1)), m) := by
    intro z m R' hz hm hNR'
    obtain ⟨m2, m3, m4, m5, m6⟩ := hm
    have hsub : pu_I (N + 1) - 1 = pu_I N := pv_sub (b := 1) (by omega)
    have hi : ∀ R9, R9 = R' → ixb (pu_I N) R9 = true := fun R9 e => (pu_ix (by omega)).mpr (by omega)
    unfold fX9_add_J92
    rw [hz, if_pos (hi _ m2), pu_nn (by omega)]
    simp only [lt9]
    rw [pv_upw_n (q := 0) (by decide), hz, if_pos (hi _ m3), pu_nn (by omega)]
    rw [pv_upw_n (q := 0) (by decide), pv_upw_n (q := 0) (by decide), hz, if_pos (hi _ m4), pu_nn (by omega)]
    rw [pv_upw_n (q := 0) (by decide), pv_upw_n (q := 0) (by decide), pv_upw_n (q := 0) (by decide), hz, if_pos (hi _ m5), pu_nn (by omega)]
    rw [pv_upw_n (q := 0) (by decide), pv_upw_n (q := 0) (by decide), pv_upw_n (q := 0) (by decide), pv_upw_n (q := 0) (by decide), hz, if_pos (hi _ m6), pu_nn (by omega)]
    have z6 : upw (upw (upw (upw (upw z 2 N k) 3 N gv) 4 N lf) 5 N rt) 6 N (-1) 0 0 = pu_I N := by
      rw [pv_upw_n (by decide), pv_upw_n (by decide), pv_upw_n (by decide), pv_upw_n (by decide), pv_upw_n (by decide), hz]
    rw [z6, pu_su, pv_upw (r := 0), if_pos ⟨rfl, rfl⟩, hsub]
  have hfin : ∀ (z : ST) (m : Nat → Nat) (R' : Nat), fX9_add n2 w2 k gv lf rt = fX9_add_J92 k gv lf rt z m → z 0 = w2 0 → (∀ r i, r ≠ 0 → i < N → z r i = w2 r i) → (∀ r, r ≠ 2 → r ≠ 3 → r ≠ 4 → r ≠ 5 → r ≠ 6 → z r = w2 r) → pv_sR m R' → N + 1 ≤ R' → (R' = R ∨ R' = N + N / 2 + 1) → (∀ r, r ≠ 2 → r ≠ 3 → r ≠ 4 → r ≠ 5 → r ≠ 6 → m r = n2 r) →
      ∃ w2' n2' R', fX9_add n2 w2 k gv lf rt = some (pu_I N, w2', n2') ∧ w2' 0 0 = pu_I (N + 1) ∧ (∀ i, i ≠ 0 → w2' 0 i = w2 0 i) ∧ (w2' 2 N = k ∧ w2' 3 N = gv ∧ w2' 4 N = lf ∧ w2' 5 N = rt ∧ w2' 6 N < 0) ∧
      (∀ r i, r ≠ 0 → i < N → w2' r i = w2 r i) ∧ (∀ r, r ≠ 0 → r ≠ 2 → r ≠ 3 → r ≠ 4 → r ≠ 5 → r ≠ 6 → w2' r = w2 r) ∧ pv_sR n2' R' ∧ N + 1 ≤ R' ∧ (R' = R ∨ R' = N + N / 2 + 1) ∧ (∀ r, r ≠ 2 → r ≠ 3 → r ≠ 4 → r ≠ 5 → r ≠ 6 → n2' r = n2 r) := by
    intro z m R' e z0 zi zr hm hNR' hRR hmn
    refine ⟨_, m, R', e.trans (hlay z m R' (by rw [z0]; exact hc) hm hNR'), ?_, fun i hi => ?_, ⟨?_, ?_, ?_, ?_, ?_⟩, fun r i hr hi => ?_, fun r r0 r2 r3 r4 r5 r6 => ?_, hm, hNR', hRR, hmn⟩
    · rw [pv_upw, if_pos ⟨rfl, rfl⟩]
    · rw [pv_upw, if_neg fun c => hi c.2, pv_upw_n (by decide), pv_upw_n (by decide), pv_upw_n (by decide), pv_upw_n (by decide), pv_upw_n (by decide), z0]
    · rw [pv_upw_n (by decide), pv_upw_n (by decide), pv_upw_n (by decide), pv_upw_n (by decide), pv_upw_n (by decide), pv_upw, if_pos ⟨rfl, rfl⟩]
    · rw [pv_upw_n (by decide), pv_upw_n (by decide), pv_upw_n (by decide), pv_upw_n (by decide), pv_upw, if_pos ⟨rfl, rfl⟩]
    · rw [pv_upw_n (by decide), pv_upw_n (by decide), pv_upw_n (by decide), pv_upw, if_pos ⟨rfl, rfl⟩]
    · rw [pv_upw_n (by decide), pv_upw_n (by decide), pv_upw, if_pos ⟨rfl, rfl⟩]
    · rw [pv_upw_n (by decide), pv_upw, if_pos ⟨rfl, rfl⟩]
      decide
    · rw [pv_upw_n hr, pv_upw, if_neg fun c => by omega, pv_upw, if_neg fun c => by omega, pv_upw, if_neg fun c => by omega, pv_upw, if_neg fun c => by omega, pv_upw, if_neg fun c => by omega]
      exact zi r i hr hi
    · rw [pv_upw_n r0, pv_upw_n r6, pv_upw_n r5, pv_upw_n r4, pv_upw_n r3, pv_upw_n r2]
      exact zr r r2 r3 r4 r5 r6
  by_cases hlt : N < R
  · refine hfin w2 n2 R ?_ rfl (fun _ _ _ _ => rfl) (fun _ _ _ _ _ _ => rfl) hR (by omega) (Or.inl rfl) (fun _ _ _ _ _ _ => rfl)
    unfold fX9_add
    rw [hc, q2, if_pos ((pv_ofl (by omega) (by omega)).mpr hlt)]
  · have hNe : N = R := by omega
    have hroom : (pu_I N + pu_I N / 2) + 1 = pu_I (N + N / 2 + 1) := by rw [pv_half (by omega), pv_add, pu_su]
    have hgr : R < N + N / 2 + 1 := by omega
    have hgrs : grs R (N + N / 2 + 1) = true := by
      unfold grs
      rw [decide_eq_true_iff]
      omega
    obtain ⟨f2, a2, b2⟩ := pv_copyOf (f := w2 2) hgr (by omega)
    obtain ⟨f3, a3, b3⟩ := pv_copyOf (f := (srw w2 2 f2) 3) hgr (by omega)
    obtain ⟨f4, a4, b4⟩ := pv_copyOf (f := (srw (srw w2 2 f2) 3 f3) 4) hgr (by omega)
    obtain ⟨f5, a5, b5⟩ := pv_copyOf (f := (srw (srw (srw w2 2 f2) 3 f3) 4 f4) 5) hgr (by omega)
    obtain ⟨f6, a6, b6⟩ := pv_copyOf (f := (srw (srw (srw (srw w2 2 f2) 3 f3) 4 f4) 5 f5) 6) hgr (by omega)
    rw [pv_srw_n (by decide)] at b3
    rw [pv_srw_n (by decide), pv_srw_n (by decide)] at b4
    rw [pv_srw_n (by decide), pv_srw_n (by decide), pv_srw_n (by decide)] at b5
    rw [pv_srw_n (by decide), pv_srw_n (by decide), pv_srw_n (by decide), pv_srw_n (by decide)] at b6
    refine hfin (srw (srw (srw (srw (srw w2 2 f2) 3 f3) 4 f4) 5 f5) 6 f6) (stn (stn (stn (stn (stn n2 2 (N + N / 2 + 1)) 3 (N + N / 2 + 1)) 4 (N + N / 2 + 1)) 5 (N + N / 2 + 1)) 6 (N + N / 2 + 1)) (N + N / 2 + 1) ?_ ?_ (fun r i r0 hi => ?_) (fun r r2 r3 r4 r5 r6 => ?_) ⟨?_, ?_, ?_, ?_, ?_⟩ (by omega) (Or.inr rfl) (fun r r2 r3 r4 r5 r6 => ?_)
    · unfold fX9_add
      rw [hc, q2, if_neg (by rw [pv_ofl (by omega) (by omega)]; exact hlt), hroom, a2, Option.bind_some, if_pos hgrs]
      simp only [lt9]
      unfold fX9_add_G40_19
      rw [hc, hroom, pv_stn n2 2 _ 3, if_neg (by decide), q3, a3, Option.bind_some, if_pos hgrs]
      simp only [lt9]
      unfold fX9_add_G53_26
      rw [hc, hroom, pv_stn _ 3 _ 4, if_neg (by decide), pv_stn n2 2 _ 4, if_neg (by decide), q4, a4, Option.bind_some, if_pos hgrs]
      simp only [lt9]
      unfold fX9_add_G66_33
      rw [hc, hroom, pv_stn _ 4 _ 5, if_neg (by decide), pv_stn _ 3 _ 5, if_neg (by decide), pv_stn n2 2 _ 5, if_neg (by decide), q5, a5, Option.bind_some, if_pos hgrs]
      simp only [lt9]
      unfold fX9_add_G79_40
      rw [hc, hroom, pv_stn _ 5 _ 6, if_neg (by decide), pv_stn _ 4 _ 6, if_neg (by decide), pv_stn _ 3 _ 6, if_neg (by decide), pv_stn n2 2 _ 6, if_neg (by decide), q6, a6, Option.bind_some, if_pos hgrs]
      simp only [lt9]
      rfl
    · rw [pv_srw_n (by decide), pv_srw_n (by decide), pv_srw_n (by decide), pv_srw_n (by decide), pv_srw_n (by decide)]
    · have hiR : i < R := by omega
      by_cases e6 : r = 6
      · subst e6; rw [pv_srw_s]; exact b6 i hiR
      rw [pv_srw_n e6]
      by_cases e5 : r = 5
      · subst e5; rw [pv_srw_s]; exact b5 i hiR
      rw [pv_srw_n e5]
      by_cases e4 : r = 4
      · subst e4; rw [pv_srw_s]; exact b4 i hiR
      rw [pv_srw_n e4]
      by_cases e3 : r = 3
      · subst e3; rw [pv_srw_s]; exact b3 i hiR
      rw [pv_srw_n e3]
      by_cases e2 : r = 2
      · subst e2; rw [pv_srw_s]; exact b2 i hiR
      rw [pv_srw_n e2]
    · rw [pv_srw_n r6, pv_srw_n r5, pv_srw_n r4, pv_srw_n r3, pv_srw_n r2]
    · rw [pv_stn, if_neg (by decide), pv_stn, if_neg (by decide), pv_stn, if_neg (by decide), pv_stn, if_neg (by decide), pv_stn, if_pos rfl]
    · rw [pv_stn, if_neg (by decide), pv_stn, if_neg (by decide), pv_stn, if_neg (by decide), pv_stn, if_pos rfl]
    · rw [pv_stn, if_neg (by decide), pv_stn, if_neg (by decide), pv_stn, if_pos rfl]
    · rw [pv_stn, if_neg (by decide), pv_stn, if_pos rfl]
    · rw [pv_stn, if_pos rfl]
    · rw [pv_stn, if_neg r6, pv_stn, if_neg r5, pv_stn, if_neg r4, pv_stn, if_neg r3, pv_stn, if_neg r2]
/-- a step more at the end of a block -/
theorem pv_addStep {B N R : Nat} {w w2 : ST} {n2 : Nat → Nat} {ch : Nat → List Nat} {b : Nat} (hB : B ≤ 60) (hc : w2 0 0 = pu_I N) (hR : pv_sR n2 R) (hNR : N ≤ R) (hR2 : R < 100000) (hst : pv_stc B w w2 ch) (hd : pv_dis B N ch) (hb : b < B) (k gv lf rt : Int32) :
    ∃ w' w2' n2' R', fX1_addStep w (pu_I b) k gv lf rt n2 w2 = some (pu_I N, w', w2', n2') ∧ w2' 0 0 = pu_I (N + 1) ∧ (∀ i, i ≠ 0 → w2' 0 i = w2 0 i) ∧ pv_S w2' N = (k, gv, lf, rt) ∧ (∀ r i, r ≠ 0 → r ≠ 6 → i < N → w2' r i = w2 r i) ∧ (∀ r, r ≠ 0 → r ≠ 2 → r ≠ 3 → r ≠ 4 → r ≠ 5 → r ≠ 6 → w2' r = w2 r) ∧
      (∀ a, a < N → (∀ c, c < B → a ∉ ch c) → w2' 6 a = w2 6 a) ∧ pv_sR n2' R' ∧ N + 1 ≤ R' ∧ (R' = R ∨ R' = N + N / 2 + 1) ∧ (∀ r, r ≠ 2 → r ≠ 3 → r ≠ 4 → r ≠ 5 → r ≠ 6 → n2' r = n2 r) ∧
      pv_stc B w' w2' (pv_up ch b (ch b ++ [N])) ∧ pv_dis B (N + 1) (pv_up ch b (ch b ++ [N])) ∧ (∀ r, r ≠ 4 → r ≠ 5 → w' r = w r) ∧ (∀ c, c ≠ b → w' 4 c = w 4 c ∧ w' 5 c = w 5 c) := by
  obtain ⟨z, m, R', e1, z0, zi, ⟨y2, y3, y4, y5, y6⟩, e2, e3, e4, e5, e6, e7⟩ := pv_add9 hc hR hNR hR2 k gv lf rt
  have hnew : ∀ c, c < B → N ∉ ch c := fun c hc h => by have := hd.1 c hc N h; omega
  have hd1 : pv_dis B (N + 1) ch := ⟨fun c hc a ha => by have := hd.1 c hc a ha; omega, hd.2.1, hd.2.2⟩
  have hst1 : pv_stc B w z ch := ⟨fun c hc => pv_ch_fr (ch c) (w 4 c) (fun a ha => e2 6 a (by decide) (hd.1 c hc a ha)) (hst.1 c hc), hst.2⟩
  obtain ⟨w', w2', f1, f2, f3, f4, f5, f6, f7⟩ := pv_link (n2 := m) (s := N) hB (N := N + 1) (by rw [e4.2.2.2.2]; exact e5) (by omega) hst1 hd1 hb (by omega) hnew
  refine ⟨w', w2', m, R', ?_, by rw [f6 0 (by decide)]; exact z0, fun i hi => by rw [f6 0 (by decide)]; exact zi i hi, ?_, fun r i r0 r6 hi => by rw [f6 r r6]; exact e2 r i r0 hi, fun r r0 r2 r3 r4 r5 r6 => by rw [f6 r r6]; exact e3 r r0 r2 r3 r4 r5 r6, fun a ha hno => ?_, e4, e5, e6, e7, f2, f3, f4, f5⟩
  · unfold fX1_addStep fX1_addStep_G13_13
    rw [e1, Option.bind_some]
    show (fX1_link w (pu_I b) (pu_I N) m z).bind _ = _
    rw [f1, Option.bind_some]
  · unfold pv_S
    rw [f6 2 (by decide), f6 3 (by decide), f6 4 (by decide), f6 5 (by decide), y2, y3, y4, y5]
  · rw [f7 a, e2 6 a (by decide) ha]
    intro c hc h
    by_cases e : c = b
    · rw [e, pv_up_s] at h
      rcases List.mem_append.mp h with h | h
      · exact hno b hb h
      · have := List.mem_singleton.mp h
        omega
    · rw [pv_up_n e] at h
      exact hno c hc h
