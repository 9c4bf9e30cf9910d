/-! pure side, the law 1: what code is, of all functions; isCodeRight -/
theorem lw_ix {K n : Nat} {v : Int32} (hK : K ≤ n) (hn : n < 2147483648) (h : ∃ q, q < K ∧ v = pu_I q) : ixb v n = true := by
  obtain ⟨q, h1, h2⟩ := h
  rw [h2]
  exact (pu_ix (by omega)).mpr (by omega)
theorem lw_gw {k : Int32} (h : pu_gk k = true) : pu_gw k = true := by
  unfold pu_gw
  rw [h]
  rfl
theorem lw_ln {x9 : ST} {M fs na K S R i : Nat} (h : pa_cl x9 M fs na K S i) (hK : K ≤ 250) (hS : S ≤ R) : pm_ln x9 M fs na R i := by
  obtain ⟨c1, c2, c3, c4, c5, c6, c7, c8, c9, c10, c11, c12, c13⟩ := h
  have hx : ∀ {v : Int32}, (∃ q, q < K ∧ v = pu_I q) → ixb v 250 = true := fun h => lw_ix hK (by decide) h
  refine ⟨c7, fun h => ⟨hx (c3 (h.elim (fun h => Or.inr (Or.inl h)) fun h => Or.inr (Or.inr (Or.inr h)))), c8 h⟩, fun h => hx (c3 (Or.inr (Or.inr (Or.inl h)))), fun h => ⟨hx (c1 (by rw [h]; decide)), hx (c3 (Or.inl (by rw [h]; decide)))⟩, fun h => ⟨hx (c1 (by rw [h]; decide)), ?_⟩, fun h => ⟨hx (c3 (Or.inl (by rw [h]; decide))), ?_⟩, ⟨fun h => hx (c1 (lw_gw h)), fun _ => ⟨fun h => hx (c3 (Or.inl h)), fun h => hx (c4 h)⟩, c10, c11⟩, c12, c13⟩
  · obtain ⟨s, s1, s2⟩ := c5 h
    exact ⟨s, by omega, s2⟩
  · obtain ⟨s, s1, s2⟩ := c6 h
    exact ⟨s, by omega, s2⟩
theorem lw_mx {sl : Nat → Nat} : ∀ (n f : Nat), f < n → sl f ≤ pm_mx sl n := by
  intro n
  induction n with
  | zero => intro f h; exact absurd h (Nat.not_lt_zero f)
  | succ n ih =>
    intro f h
    show sl f ≤ max (pm_mx sl n) (sl n)
    by_cases e : f = n
    · rw [e]; exact Nat.le_max_right _ _
    · exact Nat.le_trans (ih f (by omega)) (Nat.le_max_left _ _)
/-- code of all functions, in shape -/
theorem lw_cc {P : ST} {fs K : Nat} {nas : Nat → Nat} {F0 : Nat → pu_Flow} {aw : ST} {Cn : Nat → Nat → Nat} {Cw : Nat → ST} (hfs : fs ≤ 6) (hK : K ≤ 8) (hP : ∀ f, f < fs → P 4 f = pu_I (nas f) ∧ nas f ≤ 4) (hc : ∀ h, h < fs → pa_cdd fs (nas h) (F0 h) K aw Cn Cw h) :
    ∃ Nl sl : Nat → Nat, (∀ f, f < fs → aw 3 f = pu_I (sl f) ∧ sl f ≤ 1210) ∧ pm_cc P fs nas Cn Cw Nl (pm_mx sl fs) ∧ pm_FC fs F0 (pm_Cs Cw) := by
  refine ⟨fun f => nn (Cw f 0 0), fun f => nn (aw 3 f), fun f hf => ?_, ⟨hfs, fun f hf => ?_⟩, fun f hf => ?_⟩
  · obtain ⟨j, S, M, _, ⟨h3, h3'⟩, _⟩ := hc f hf
    have e : nn (aw 3 f) = S := by rw [h3]; exact pu_nn (by omega)
    exact ⟨by show aw 3 f = pu_I (nn (aw 3 f)); rw [e]; exact h3, by show nn (aw 3 f) ≤ 1210; rw [e]; exact h3'⟩
  · obtain ⟨j, S, M, _, ⟨h3, h3'⟩, ⟨h0, hM0, hM, R, hR, hMR⟩, hcl, _⟩ := hc f hf
    obtain ⟨r2, r3, r4, r5, r6⟩ := hR
    have e : nn (aw 3 f) = S := by rw [h3]; exact pu_nn (by omega)
    have eM : nn (Cw f 0 0) = M := by rw [h0]; exact pu_nn (by omega)
    have hmx := lw_mx (sl := fun f => nn (aw 3 f)) fs f hf
    have hmx' : nn (aw 3 f) ≤ pm_mx (fun f => nn (aw 3 f)) fs := hmx
    obtain ⟨p1, p2⟩ := hP f hf
    refine ⟨p1, p2, ?_, ?_, fun i hi => ?_⟩
    · show 0 < nn (Cw f 0 0)
      rw [eM]; exact hM0
    · show nn (Cw f 0 0) ≤ _ ∧ nn (Cw f 0 0) ≤ _ ∧ nn (Cw f 0 0) ≤ _ ∧ nn (Cw f 0 0) ≤ _ ∧ nn (Cw f 0 0) < _
      rw [eM]
      exact ⟨by omega, by omega, by omega, by omega, by omega⟩
    · have hi : i < nn (Cw f 0 0) := hi
      show pm_ln (Cw f) (nn (Cw f 0 0)) fs (nas f) _ i
      rw [eM] at hi ⊢
      exact lw_ln (hcl i hi) (by omega) (by omega)
  · obtain ⟨j, S, M, _, _, _, _, B, Fc, W', ln, h1, h2, h3⟩ := hc f hf
    exact pa_FC (fs := fs) (Fs := fun _ => F0 f) (Fc := fun _ => Fc) (Ls := fun _ b => b < B) (Vs := fun _ => W') (Cs := fun _ => pm_Cs Cw f) (lns := fun _ => ln) (fun _ _ => ⟨h1, h2, h3⟩) f hf
theorem lw_k29 {k : Int32} (h : pu_kw k ∨ k = 22 ∨ k = 23 ∨ k = 28 ∨ k = 24) : k = 0 ∨ k = 1 ∨ k = 2 ∨ k = 3 ∨ k = 4 ∨ k = 5 ∨ k = 6 ∨ k = 7 ∨ k = 8 ∨ k = 9 ∨ k = 10 ∨ k = 11 ∨ k = 12 ∨ k = 13 ∨ k = 14 ∨ k = 15 ∨ k = 16 ∨ k = 17 ∨ k = 18 ∨ k = 19 ∨ k = 20 ∨ k = 21 ∨ k = 22 ∨ k = 23 ∨ k = 24 ∨ k = 25 ∨ k = 26 ∨ k = 27 ∨ k = 28 := by
  rcases h with h | h | h | h | h
  · rcases h with h | h | h | h | h | h
    · unfold pu_gk at h
      rw [decide_eq_true_iff] at h
      rcases h with ⟨h0, h17⟩ | h | h
      · have hk := pu_of (Int32.not_lt.mpr h0)
        rw [hk] at h17
        have hb : nn k < 2147483648 := by
          have := k.toInt_lt
          show k.toInt.toNat < _
          omega
        have hn := (pu_le (b := 17) hb (by decide)).mp h17
        have h18 : nn k = 0 ∨ nn k = 1 ∨ nn k = 2 ∨ nn k = 3 ∨ nn k = 4 ∨ nn k = 5 ∨ nn k = 6 ∨ nn k = 7 ∨ nn k = 8 ∨ nn k = 9 ∨ nn k = 10 ∨ nn k = 11 ∨ nn k = 12 ∨ nn k = 13 ∨ nn k = 14 ∨ nn k = 15 ∨ nn k = 16 ∨ nn k = 17 := by omega
        rcases h18 with h | h | h | h | h | h | h | h | h | h | h | h | h | h | h | h | h | h <;> rw [h] at hk <;> rw [hk] <;> decide
      · rw [h]; decide
      · rw [h]; decide
    all_goals rw [h]; decide
  all_goals rw [h]; decide
theorem lw_icl {kk9 : Int32 → Option (Sum Int32 Unit)} {p1 p2 : Int32} {P aw : ST} {o1 v k g l r sS sF : Int32} (hS : fX11_slots p1 P aw = some sS) (hF : fX11_functions P = some sF) (h1 : pu_gw k = true → ¬ g < 0 ∧ g < p2) (h2 : pu_gw k = false → g < 0 ∧ g < p2) (h3 : (pu_ul k = true ∨ k = 23 ∨ k = 24 ∨ k = 28) → ¬ l < 0 ∧ ¬ p2 ≤ l) (h4 : pu_ur k = true → ¬ r < 0 ∧ r < p2)
    (h5 : k = 26 → ¬ l < 0 ∧ ¬ sS ≤ l) (h6 : k = 27 → ¬ r < 0 ∧ r < sS) (h7 : k = 22 → ¬ l < 0 ∧ ¬ o1 ≤ l) (h8 : (k = 23 ∨ k = 28) → ¬ r < 0 ∧ ¬ o1 ≤ r) (h9 : k = 25 → ¬ g = l) (h10 : k = 20 → l < sF) (ho : ¬ o1 ≤ 0) (hk : pu_kw k ∨ k = 22 ∨ k = 23 ∨ k = 28 ∨ k = 24) :
    (if k < 18 then fL_isCodeRight_J86 kk9 p1 p2 P aw o1 v k g l r else (if k = 20 then fL_isCodeRight_J86 kk9 p1 p2 P aw o1 v k g l r else (if k = 21 then fL_isCodeRight_J86 kk9 p1 p2 P aw o1 v k g l r else (if k = 25 then fL_isCodeRight_J86 kk9 p1 p2 P aw o1 v k g l r else (if k = 26 then fL_isCodeRight_J86 kk9 p1 p2 P aw o1 v k g l r else fL_isCodeRight_J91 kk9 p1 p2 P aw o1 v k g l r 0))))) = kk9 (v + 1) := by
  have h29 := lw_k29 hk
  clear hk
  rcases h29 with rfl | rfl | rfl | rfl | rfl | rfl | rfl | rfl | rfl | rfl | rfl | rfl | rfl | rfl | rfl | rfl | rfl | rfl | rfl | rfl | rfl | rfl | rfl | rfl | rfl | rfl | rfl | rfl | rfl <;>
    simp (decide := true) only [true_imp_iff, false_imp_iff, or_true, true_or, or_false, false_or] at h1 h2 h3 h4 h5 h6 h7 h8 h9 h10 <;>
    simp (decide := true) only [fL_isCodeRight_J86, fL_isCodeRight_J91, fL_isCodeRight_J117, fL_isCodeRight_J140, fL_isCodeRight_J175, fL_isCodeRight_J180, fL_isCodeRight_J198, fL_isCodeRight_J220, fL_isCodeRight_J244, fL_isCodeRight_J256, fL_isCodeRight_J263, fL_isCodeRight_J276, fL_isCodeRight_J302, fL_isCodeRight_J308, fL_isCodeRight_J335, fL_isCodeRight_J353, ↓reduceIte, Option.bind_some, *]
section IC
variable {P aw : ST} {fs f M : Nat} {Cn : Nat → Nat → Nat} {Cw : Nat → ST}
theorem lw_nf (hP : P 0 0 = pu_I fs) (hf : f < fs) (hfs : fs ≤ 6) : fX11_needFunction (pu_I f) P = some () := by
  unfold fX11_needFunction
  rw [if_neg (pu_ge (by omega)), hP, if_pos ((pu_lt (by omega) (by omega)).mpr hf)]
theorem lw_lc (hf : f < 6) (h5 : aw 0 5 = 1) (hM : Cw f 0 0 = pu_I M) : fX11_lineCount (pu_I f) aw Cw = some (pu_I M) := by
  unfold fX11_lineCount
  rw [h5, if_neg (by decide), if_pos ((pu_ix (by omega)).mpr hf), pu_nn (by omega)]
  unfold lt9 fX11_lineCount_J26
  dsimp only
  rw [hM]
theorem lw_cw (hP : P 0 0 = pu_I fs) (hf : f < fs) (hfs : fs ≤ 6) (h5 : aw 0 5 = 1) (hM : Cw f 0 0 = pu_I M) (hM2 : M < 50000) {i : Nat} (hi : i < M) : fX11_codeWith (pu_I f) (pu_I i) P aw Cw = some f := by
  have hnp : fX11_needPlace (pu_I i) (pu_I M) = some () := by
    unfold fX11_needPlace
    rw [if_neg (pu_ge (by omega)), if_pos ((pu_lt (by omega) (by omega)).mpr hi)]
  unfold fX11_codeWith
  rw [lw_nf hP hf hfs, Option.bind_some, lw_lc (by omega) h5 hM, Option.bind_some, hnp, Option.bind_some, if_pos ((pu_ix (by omega)).mpr (by omega)), pu_nn (by omega)]
  rfl
/-- isCodeRight says 1 -/
theorem lw_icr {K na : Nat} {F0 : pu_Flow} (hP : P 0 0 = pu_I fs) (hf : f < fs) (hfs : fs ≤ 6) (hK : K ≤ 8) (h5 : aw 0 5 = 1) (hc : pa_cdd fs na F0 K aw Cn Cw f) : fL_isCodeRight (pu_I f) (pu_I K) P aw Cn Cw = some 1 := by
  obtain ⟨j, S, M, _, ⟨h3, h3'⟩, ⟨h0, hM0, hM, R, ⟨r2, r3, r4, r5, r6⟩, hMR⟩, hcl, _⟩ := hc
  have hcw : ∀ i, i < M → fX11_codeWith (pu_I f) (pu_I i) P aw Cw = some f := fun i hi => lw_cw hP hf hfs h5 h0 (by omega) hi
  have hS : fX11_slots (pu_I f) P aw = some (pu_I S) := by
    unfold fX11_slots
    rw [lw_nf hP hf hfs, Option.bind_some, h5, if_neg (by decide), if_pos ((pu_ix (by omega)).mpr (by omega)), pu_nn (by omega), h3]
    rfl
  have hF : fX11_functions P = some (pu_I fs) := by
    unfold fX11_functions
    rw [hP]
  have hl : fX11_lines (pu_I f) P aw Cw = some (pu_I M) := by
    unfold fX11_lines
    rw [lw_nf hP hf hfs, Option.bind_some, lw_lc (by omega) h5 h0, Option.bind_some]
  have hK1 : ∀ i, i < M → fX11_codeKind (pu_I f) (pu_I i) P aw Cn Cw = some (Cw f 2 i) := fun i hi => by
    unfold fX11_codeKind
    rw [hcw i hi, Option.bind_some, if_pos ((pu_ix (by omega)).mpr (by omega)), pu_nn (by omega)]
  have hK2 : ∀ i, i < M → fX11_codeGives (pu_I f) (pu_I i) P aw Cn Cw = some (Cw f 3 i) := fun i hi => by
    unfold fX11_codeGives
    rw [hcw i hi, Option.bind_some, if_pos ((pu_ix (by omega)).mpr (by omega)), pu_nn (by omega)]
  have hK3 : ∀ i, i < M → fX11_codeLeft (pu_I f) (pu_I i) P aw Cn Cw = some (Cw f 4 i) := fun i hi => by
    unfold fX11_codeLeft
    rw [hcw i hi, Option.bind_some, if_pos ((pu_ix (by omega)).mpr (by omega)), pu_nn (by omega)]
  have hK4 : ∀ i, i < M → fX11_codeRight (pu_I f) (pu_I i) P aw Cn Cw = some (Cw f 5 i) := fun i hi => by
    unfold fX11_codeRight
    rw [hcw i hi, Option.bind_some, if_pos ((pu_ix (by omega)).mpr (by omega)), pu_nn (by omega)]
  have hb : ∀ {v : Int32} {k : Nat}, k < 2147483648 → (∃ q, q < k ∧ v = pu_I q) → ¬ v < 0 ∧ v < pu_I k := fun {v k} hk h => by
    obtain ⟨q, q1, q2⟩ := h
    rw [q2]
    exact ⟨pu_ge (by omega), (pu_lt (by omega) hk).mpr q1⟩
  have hb' : ∀ {v : Int32} {k : Nat}, k < 2147483648 → (∃ q, q < k ∧ v = pu_I q) → ¬ v < 0 ∧ ¬ pu_I k ≤ v := fun {v k} hk h => ⟨(hb hk h).1, Int32.not_le.mpr (hb hk h).2⟩
  obtain ⟨t, e1, e2⟩ := pv_for (G := fun k i (_ : Unit) => fL_isCodeRight_L9 (pu_I f) (pu_I K) P aw Cn Cw (pu_I M) k i) (hi := M) (Inv := fun _ _ => True) (Q := fun t => t = Sum.inr ())
    (fun k i s hi _ => by
      refine ⟨(), ?_, trivial⟩
      obtain ⟨c1, c2, c3, c4, c5, c6, c7, c8, c9, c10, c11, c12, c13⟩ := hcl i hi
      have hstep := lw_icl (kk9 := fL_isCodeRight_L9 (pu_I f) (pu_I K) P aw Cn Cw (pu_I M) k) (p1 := pu_I f) (p2 := pu_I K) (P := P) (aw := aw) (o1 := pu_I M) (v := pu_I i) (k := Cw f 2 i) (g := Cw f 3 i) (l := Cw f 4 i) (r := Cw f 5 i) hS hF (fun h => hb (by omega) (c1 h)) (fun h => by rw [c2 h]; exact ⟨by decide, Int32.lt_of_lt_of_le (show (-1 : Int32) < 0 by decide) ((pu_le (a := 0) (by decide) (by omega)).mpr (Nat.zero_le K))⟩) (fun h => hb' (by omega) (c3 h)) (fun h => hb (by omega) (c4 h))
        (fun h => hb' (by omega) (c5 h)) (fun h => hb (by omega) (c6 h)) (fun h => hb' (by omega) (c7 h)) (fun h => hb' (by omega) (c8 h)) c9 (fun h => (hb (by omega) ⟨nn (Cw f 4 i), (pv_ixn (c10 h)).2, pu_of (pv_ixn (c10 h)).1⟩).2) (fun h => by have := (pu_le (b := 0) (by omega) (by decide)).mp h; omega) c12
      show (if pu_I M ≤ pu_I i then _ else ((fX11_codeKind (pu_I f) (pu_I i) P aw Cn Cw).bind _)) = _
      rw [if_neg (by rw [pu_le (by omega) (by omega)]; omega), hK1 i hi, Option.bind_some, hK2 i hi, Option.bind_some, hK3 i hi, Option.bind_some, hK4 i hi, Option.bind_some, hstep, pu_su])
    (fun k s _ => by
      refine ⟨_, ?_, rfl⟩
      show (if pu_I M ≤ pu_I M then _ else _) = _
      rw [if_pos (Int32.le_refl _)]) M 0 NF () (by omega) (by have := pv_NF; omega) trivial
  have e1 : fL_isCodeRight_L9 (pu_I f) (pu_I K) P aw Cn Cw (pu_I M) NF 0 = some t := e1
  subst e2
  have hm1 : pu_I M - 1 = pu_I (M - 1) := pv_sub (b := 1) (by omega)
  have hM1 : ¬ pu_I M = 0 := fun h => by have := pu_inj (b := 0) (by omega) (by decide) h; omega
  obtain ⟨_, _, _, _, _, _, _, _, _, _, _, _, c13⟩ := hcl (M - 1) (by omega)
  unfold fL_isCodeRight
  rw [hl, Option.bind_some, e1, Option.bind_some]
  show (if pu_I M = 0 then (fL_isCodeRight_J389) else ((fX11_codeKind (pu_I f) (pu_I M - 1) P aw Cn Cw).bind _)) = _
  rw [if_neg hM1, hm1, hK1 (M - 1) (by omega), Option.bind_some]
  by_cases h24 : Cw f 2 (M - 1) = 24
  · rw [if_pos h24]; rfl
  · rw [if_neg h24, Option.bind_some]
    have h22 : Cw f 2 (M - 1) = 22 := Classical.byContradiction fun h => by have := c13 h h24; omega
    rw [if_pos h22]; rfl
end IC
