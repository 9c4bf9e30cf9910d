/-! pure side, the machine 5: a text, from its start -/
section ST0
variable {P : ST} {n17 : Nat → Nat} {fs : Nat} {a0 a1 Vn : Nat → Nat} {A : Nat → Nat → Nat → Prop} {np rk tk : Nat → Nat} {R : Nat}
/-- told words are pushed -/
theorem pm_told {w0 : ST} {f p : Nat} (hf : f < 6) (hp : P 4 f = pu_I p) (hp4 : p ≤ 4) : ∀ (m k n : Nat) (w : ST), k + m = p → m < n → w 0 19 = pu_I k → w 8 = w0 8 → (∀ z, z < k → w 19 z = w0 8 z) →
    ∃ w', fX3_start_L30 (pu_I f) P n (pu_I k) w = some w' ∧ w' 0 19 = pu_I p ∧ (∀ z, z < p → w' 19 z = w0 8 z) ∧ (∀ j, j ≠ 19 → w' 0 j = w 0 j) ∧ (∀ r, r ≠ 0 → r ≠ 19 → w' r = w r) := by
  have hfx : ixb (pu_I f) 6 = true := (pu_ix (by omega)).mpr hf
  have hfn : nn (pu_I f) = f := pu_nn (by omega)
  intro m
  induction m with
  | zero =>
    intro k n w hk hn h19 h8 hz
    obtain ⟨n', rfl⟩ : ∃ n', n = n' + 1 := ⟨n - 1, by omega⟩
    obtain rfl : k = p := by omega
    refine ⟨w, ?_, h19, hz, fun _ _ => rfl, fun _ _ _ => rfl⟩
    show (if ixb (pu_I f) 6 = true then (if (P 4 (nn (pu_I f))) ≤ pu_I k then some w else _) else none) = _
    rw [if_pos hfx, hfn, hp, if_pos (Int32.le_refl _)]
  | succ m ih =>
    intro k n w hk hn h19 h8 hz
    obtain ⟨n', rfl⟩ : ∃ n', n = n' + 1 := ⟨n - 1, by omega⟩
    have hpu := pm_push h19 (by omega) (w 8 k)
    have e0 : ∀ j, j ≠ 19 → upw (upw w 19 k (w 8 k)) 0 19 (pu_I (k + 1)) 0 j = w 0 j := fun j hj => by rw [pv_upw, if_neg fun h => hj h.2, pv_upw_n (by decide)]
    have er : ∀ r, r ≠ 0 → r ≠ 19 → upw (upw w 19 k (w 8 k)) 0 19 (pu_I (k + 1)) r = w r := fun r r0 r19 => by rw [pv_upw_n r0, pv_upw_n r19]
    obtain ⟨w', h1, h2, h3, h4, h5⟩ := ih (k + 1) n' (upw (upw w 19 k (w 8 k)) 0 19 (pu_I (k + 1))) (by omega) (by omega) (by rw [pv_upw, if_pos ⟨rfl, rfl⟩]) (by rw [er 8 (by decide) (by decide)]; exact h8) (fun z hz' => by
      rw [pv_upw_n (by decide), pv_upw]
      by_cases e : z = k
      · rw [if_pos ⟨rfl, e⟩, h8, e]
      · rw [if_neg fun h => e h.2]; exact hz z (by omega))
    refine ⟨w', ?_, h2, h3, fun j hj => by rw [h4 j hj, e0 j hj], fun r r0 r19 => by rw [h5 r r0 r19, er r r0 r19]⟩
    show (if ixb (pu_I f) 6 = true then (if (P 4 (nn (pu_I f))) ≤ pu_I k then some w else (if ixb (pu_I k) 4 = true then ((fX3_push w (w 8 (nn (pu_I k)))).bind fun (o_12 : ST) => ((fX3_start_L30 (pu_I f) P n') (pu_I k + 1) o_12)) else none)) else none) = _
    rw [if_pos hfx, hfn, hp, if_neg (by rw [pu_le (by omega) (by omega)]; omega), if_pos ((pu_ix (by omega)).mpr (by omega)), pu_nn (by omega), hpu, Option.bind_some, pu_su]
    exact h1
/-- steps until the run ends -/
theorem pm_L67 {mv : ST → Option ST} {p1 : Int32} {Bn : Nat → Nat → Nat} {Bw : Nat → ST} {Sn : Nat → Nat → Nat} {Sw : Nat → ST} {Cn : Nat → Nat → Nat} {Cw : Nat → ST} {o5 : ST × (Nat → Nat)}
    (hmv : ∀ w, (if p1 = 0 then fX3_moveInText (o5.2) w P else if p1 = 1 then fX3_moveInBlocks (o5.2) w Bn Bw Sn Sw P else fX3_moveInCode (o5.2) w Cn Cw P) = mv w) :
    ∀ (j k v : Nat) (w w' : ST), pm_go mv j w w' → w' 0 8 = 0 → v + j ≤ 1000000 → j < k → fX3_start_L67 p1 P Bn Bw Sn Sw Cn Cw o5 k (pu_I v) w = some w' := by
  intro j
  induction j with
  | zero =>
    intro k v w w' h h8 hv hk
    obtain ⟨k', rfl⟩ : ∃ k', k = k' + 1 := ⟨k - 1, by omega⟩
    have h : w' = w := h
    subst h
    show (if (w' 0 8) = 0 then some w' else _) = _
    rw [if_pos h8]
  | succ j ih =>
    intro k v w w' ⟨h0, w1, h1, h2⟩ h8 hv hk
    obtain ⟨k', rfl⟩ : ∃ k', k = k' + 1 := ⟨k - 1, by omega⟩
    have hi := ih k' (v + 1) w1 w' h2 h8 (by omega) (by omega)
    have hm := hmv w
    rw [h1] at hm
    show (if (w 0 8) = 0 then some w else (if 1000000 ≤ pu_I v then some w else (if p1 = 0 then ((fX3_moveInText (o5.2) w P).bind fun (o_17 : ST) => (fX3_start_J107 (fX3_start_L67 p1 P Bn Bw Sn Sw Cn Cw o5 k') (pu_I v) o_17)) else (if p1 = 1 then ((fX3_moveInBlocks (o5.2) w Bn Bw Sn Sw P).bind fun (o_19 : ST) => (fX3_start_J107 (fX3_start_L67 p1 P Bn Bw Sn Sw Cn Cw o5 k') (pu_I v) o_19)) else ((fX3_moveInCode (o5.2) w Cn Cw P).bind fun (o_20 : ST) => (fX3_start_J107 (fX3_start_L67 p1 P Bn Bw Sn Sw Cn Cw o5 k') (pu_I v) o_20)))))) = _
    have hj : fX3_start_J107 (fX3_start_L67 p1 P Bn Bw Sn Sw Cn Cw o5 k') (pu_I v) w1 = some w' := by
      show fX3_start_L67 p1 P Bn Bw Sn Sw Cn Cw o5 k' (pu_I v + 1) w1 = _
      rw [pu_su]
      exact hi
    rw [if_neg h0, if_neg (show ¬ (1000000 : Int32) ≤ pu_I v from fun h9 => by have := (pu_le (a := 1000000) (by decide) (by omega)).mp h9; omega)]
    by_cases e0 : p1 = 0
    · rw [if_pos e0] at hm ⊢
      rw [hm, Option.bind_some, hj]
    · rw [if_neg e0] at hm ⊢
      by_cases e1 : p1 = 1
      · rw [if_pos e1] at hm ⊢
        rw [hm, Option.bind_some, hj]
      · rw [if_neg e1] at hm ⊢
        rw [hm, Option.bind_some, hj]
/-- what a run begins with -/
theorem pm_begin {w : ST} : ∃ w1, fX3_begin w = some w1 ∧ w1 0 0 = 0 ∧ w1 0 1 = 0 ∧ w1 0 2 = 0 ∧ (∀ z, z < 16 → w1 4 z = 0) ∧ (∀ j, j ≠ 0 → j ≠ 1 → j ≠ 2 → w1 0 j = w 0 j) ∧ (∀ r, r ≠ 0 → r ≠ 4 → w1 r = w r) := by
  obtain ⟨g, h1, h2⟩ := pv_fill (n := 16) (f := upw (upw (upw w 0 0 0) 0 1 0) 0 2 0 4) (v := 0) (by decide)
  refine ⟨srw (upw (upw (upw w 0 0 0) 0 1 0) 0 2 0) 4 g, ?_, ?_, ?_, ?_, fun z hz => ?_, fun j j0 j1 j2 => ?_, fun r r0 r4 => ?_⟩
  · unfold fX3_begin
    simp only [lt9]
    rw [h1]
    rfl
  · rw [pv_srw_n (by decide), pv_upw, if_neg fun h => absurd h.2 (by decide), pv_upw, if_neg fun h => absurd h.2 (by decide), pv_upw, if_pos ⟨rfl, rfl⟩]
  · rw [pv_srw_n (by decide), pv_upw, if_neg fun h => absurd h.2 (by decide), pv_upw, if_pos ⟨rfl, rfl⟩]
  · rw [pv_srw_n (by decide), pv_upw, if_pos ⟨rfl, rfl⟩]
  · rw [pv_srw_s]; exact h2 z hz
  · rw [pv_srw_n (by decide), pv_upw, if_neg fun h => j2 h.2, pv_upw, if_neg fun h => j1 h.2, pv_upw, if_neg fun h => j0 h.2]
  · rw [pv_srw_n r4, pv_upw_n r0, pv_upw_n r0, pv_upw_n r0]
/-- the call that a run opens: all that the ways share -/
theorem pm_open {w L : ST} {f p : Nat} {way at0 : Int32} {n1 : Nat → Nat} (hf : f < 6) (hp : P 4 f = pu_I p) (hp4 : p ≤ 4)
    (hsl : ∀ w4 : ST, w4 0 8 = 1 → ∃ w5 m, fX3_makeSlots n17 w4 way P L = some (w5, m) ∧ w5 0 17 = pu_I R ∧ 8 * R ≤ m 17 ∧ m 17 < 1000000 ∧ (∀ j, j ≠ 17 → w5 0 j = w4 0 j) ∧ (∀ r, r ≠ 0 → r ≠ 17 → w5 r = w4 r) ∧ m = n1) (hat : at0 = if way = 0 then P 6 f else if way = 1 then -2 else 0) :
    ∃ w6 w5, w6 0 8 = 1 ∧ w6 0 9 = pu_I 1 ∧ w6 12 0 = at0 ∧ w6 13 0 = 0 ∧ w6 14 0 = -1 ∧ w6 11 0 = pu_I f ∧ w6 0 19 = 0 ∧ w6 0 2 = 0 ∧ w6 0 17 = pu_I R ∧ w6 0 1 = 0 ∧ w6 0 0 = 0 ∧ (∀ v, v < 320 → w6 16 v = 0) ∧ (∀ v, v < R → w6 17 v = 0) ∧ (∀ z, z < 16 → w6 4 z = 0) ∧ (∀ z, z < p → w6 15 z = w 8 z) ∧ w6 8 = w 8 ∧ 8 * R ≤ n1 17 ∧ n1 17 < 1000000 ∧
      ∀ Bn Bw Sn Sw Cn Cw w', fX3_start_L67 way P Bn Bw Sn Sw Cn Cw (w5, n1) NF 0 w6 = some w' → fX3_start n17 w way (pu_I f) P L Bn Bw Sn Sw Cn Cw = some (w', n1) := by
  obtain ⟨w1, h1, h2, h3, h4, h5, h6, h7⟩ := pm_begin (w := w)
  obtain ⟨w4, hw4⟩ : ∃ w4, w4 = upw (upw (upw w1 0 8 1) 0 9 0) 0 19 0 := ⟨_, rfl⟩
  have q8 : w4 0 8 = 1 := by rw [hw4, pv_upw, if_neg fun h => absurd h.2 (by decide), pv_upw, if_neg fun h => absurd h.2 (by decide), pv_upw, if_pos ⟨rfl, rfl⟩]
  have q9 : w4 0 9 = 0 := by rw [hw4, pv_upw, if_neg fun h => absurd h.2 (by decide), pv_upw, if_pos ⟨rfl, rfl⟩]
  have q19 : w4 0 19 = 0 := by rw [hw4, pv_upw, if_pos ⟨rfl, rfl⟩]
  have q0 : ∀ j, j ≠ 8 → j ≠ 9 → j ≠ 19 → w4 0 j = w1 0 j := fun j j8 j9 j19 => by rw [hw4, pv_upw, if_neg fun h => j19 h.2, pv_upw, if_neg fun h => j9 h.2, pv_upw, if_neg fun h => j8 h.2]
  have qr : ∀ r, r ≠ 0 → w4 r = w1 r := fun r r0 => by rw [hw4, pv_upw_n r0, pv_upw_n r0, pv_upw_n r0]
  obtain ⟨w5, m, s1, s2, s3, s4, s5, s6, s7⟩ := hsl w4 q8
  subst s7
  obtain ⟨w30, t1, t2, t3, t4, t5⟩ := pm_told (P := P) (w0 := w) (f := f) (p := p) hf hp hp4 p 0 NF w5 (by omega) (by have := pv_NF; omega) (by rw [s5 19 (by decide), q19]; rfl) (by rw [s6 8 (by decide) (by decide), qr 8 (by decide), h7 8 (by decide) (by decide)]) (fun z hz => absurd hz (Nat.not_lt_zero z))
  obtain ⟨w6, e1, e2, e3, e4, e5, e6, e7, e8, e9, e10, e11, e12, e13⟩ := pm_enter (w := w30) (P := P) (n17 := m) (c := 0) (f := f) (p := p) (q := 0) (R := R) (way := way) (at0 := at0) (by rw [t4 9 (by decide), s5 9 (by decide), q9]; rfl) (by decide) hf hp hp4 (by rw [t2, Nat.zero_add]) (by omega) (by rw [t4 17 (by decide)]; exact s2) s3 s4 hat
  refine ⟨w6, w5, ?_, e2, e8, e6, e7, e5, e3, ?_, ?_, ?_, ?_, fun v hv => ?_, fun v hv => ?_, fun z hz => ?_, fun z hz => ?_, ?_, s3, s4, fun Bn Bw Sn Sw Cn Cw w' hr => ?_⟩
  · rw [e4 8 (by decide) (by decide), t4 8 (by decide), s5 8 (by decide), q8]
  · rw [e4 2 (by decide) (by decide), t4 2 (by decide), s5 2 (by decide), q0 2 (by decide) (by decide) (by decide), h4]
  · rw [e4 17 (by decide) (by decide), t4 17 (by decide), s2]
  · rw [e4 1 (by decide) (by decide), t4 1 (by decide), s5 1 (by decide), q0 1 (by decide) (by decide) (by decide), h3]
  · rw [e4 0 (by decide) (by decide), t4 0 (by decide), s5 0 (by decide), q0 0 (by decide) (by decide) (by decide), h2]
  · have h := e10 v hv
    rw [Nat.zero_mul, Nat.zero_add] at h
    exact h
  · have h := e11 v hv
    rw [Nat.zero_mul, Nat.zero_add] at h
    exact h
  · rw [e13 4 (by decide) (by decide) (by decide) (by decide) (by decide) (by decide) (by decide) (by decide), t5 4 (by decide) (by decide), s6 4 (by decide) (by decide), qr 4 (by decide), h5 z hz]
  · have h := e9 z hz
    rw [Nat.zero_mul, Nat.zero_add] at h
    rw [h, t3 z hz]
  · rw [e13 8 (by decide) (by decide) (by decide) (by decide) (by decide) (by decide) (by decide) (by decide), t5 8 (by decide) (by decide), s6 8 (by decide) (by decide), qr 8 (by decide), h7 8 (by decide) (by decide)]
  · unfold fX3_start
    rw [h1, Option.bind_some]
    simp only [lt9]
    rw [← hw4, s1, Option.bind_some]
    show ((fX3_start_L30 (pu_I f) P NF 0 w5).bind fun (o30 : ST) => ((fX3_enter m o30 way (pu_I f) P).bind fun (o_13 : ST) => ((fX3_start_L67 way P Bn Bw Sn Sw Cn Cw (w5, m) NF 0 o_13).bind fun (o67 : ST) => some (o67, m)))) = _
    have t1 : fX3_start_L30 (pu_I f) P NF 0 w5 = some w30 := t1
    rw [t1, Option.bind_some, e1, Option.bind_some, hr]
    rfl
/-- no slots but in code -/
theorem pm_slots0 {w L : ST} {way : Int32} (hw : way = 0 ∨ way = 1) (hn : n17 17 < 1000000) : ∃ w5, fX3_makeSlots n17 w way P L = some (w5, stn n17 17 (n17 17)) ∧ w5 0 17 = 0 ∧ (∀ j, j ≠ 17 → w5 0 j = w 0 j) ∧ (∀ r, r ≠ 0 → r ≠ 17 → w5 r = w r) := by
  have hNF := pv_NF
  obtain ⟨k, hk⟩ : ∃ k, NF = k + 1 := ⟨NF - 1, by omega⟩
  refine ⟨srw (upw w 0 17 0) 17 (upw w 0 17 0 17), ?_, ?_, fun j hj => ?_, fun r r0 r17 => ?_⟩
  · have h7 : fX3_makeSlots_L7 way P L NF 0 (upw w 0 17 0) = some (upw w 0 17 0) := by
      rw [hk]
      show (if way ≤ 1 then _ else _) = _
      rw [if_pos (by rcases hw with h | h <;> rw [h] <;> decide)]
    have h11 : fX11_atLeast (n17 17) (upw w 0 17 0 17) ((upw w 0 17 0 0 17) * 8) = some (n17 17, upw w 0 17 0 17) := by
      unfold fX11_atLeast
      rw [show upw w 0 17 0 0 17 = 0 by rw [pv_upw, if_pos ⟨rfl, rfl⟩], if_neg (show ¬ Int32.ofNat (n17 17) < 0 * 8 from pu_ge (by omega))]
    unfold fX3_makeSlots
    simp only [lt9]
    rw [h7, Option.bind_some, h11]
    rfl
  · rw [pv_srw_n (by decide), pv_upw, if_pos ⟨rfl, rfl⟩]
  · rw [pv_srw_n (by decide), pv_upw, if_neg fun h => hj h.2]
  · rw [pv_srw_n r17, pv_upw_n r0]
/-- a text's whole run -/
theorem pm_start0 (hpg : pm_pg P fs a0 a1 Vn A np rk tk) {w L : ST} {f : Nat} (hf : f < fs) (hn : n17 17 < 1000000) (Bn : Nat → Nat → Nat) (Bw : Nat → ST) (Sn : Nat → Nat → Nat) (Sw : Nat → ST) (Cn : Nat → Nat → Nat) (Cw : Nat → ST) :
    ∃ w', fX3_start n17 w 0 (pu_I f) P L Bn Bw Sn Sw Cn Cw = some (w', stn n17 17 (n17 17)) ∧ w' 8 = w 8 ∧ (w' 0 0 = 2 ∨ ∃ (r : pu_Res), w' 0 0 = r.1 ∧ (r.1 ≠ 2 ∧ r.1 ≠ 9) ∧ w' 0 1 = r.2.1 ∧ (∀ z, z < 16 → w' 4 z = r.2.2 z) ∧
      ∃ N, ∀ n k, N ≤ n → N ≤ k → px_run P (px_callT P fs n 7) ((List.range (np f)).map (w 8)) k (a0 f) [] (fun _ => 0) (fun _ => 0) = some r) := by
  obtain ⟨hfs, hall⟩ := id hpg
  obtain ⟨hfn, hnp, hnp4, hrk, _⟩ := hall f hf
  obtain ⟨⟨_, _, h6, _, _, _⟩, htx, _⟩ := id hfn
  have ha01 : a0 f < a1 f := htx.2.2.2.2.2.2.1
  have hst : ∀ m : Nat → Nat, stn m 17 (m 17) 17 = m 17 := fun m => by
    unfold stn
    first | rfl | (split <;> rfl)
  obtain ⟨w6, w5, b1, b2, b3, b4, b5, b6, b7, b8, b9, b10, b11, b12, b13, b14, b15, b16, b17, b18, b19⟩ := pm_open (n17 := n17) (P := P) (w := w) (L := L) (f := f) (p := np f) (way := 0) (at0 := pu_I (a0 f)) (R := 0) (n1 := stn n17 17 (n17 17)) (by omega) hnp hnp4 (fun w4 _ => by
    obtain ⟨w5, c1, c2, c3, c4⟩ := pm_slots0 (n17 := n17) (P := P) (w := w4) (L := L) (way := 0) (Or.inl rfl) hn
    exact ⟨w5, _, c1, c2, by omega, by rw [hst]; exact hn, c3, c4, rfl⟩) (by rw [if_pos rfl]; exact h6.symm)
  have har : ((List.range (np f)).map (w 8)).length = np f := by rw [List.length_map, List.length_range]
  have hTX : pm_TX w6 f 0 0 (a0 f) [] (fun _ => 0) (fun _ => 0) ((List.range (np f)).map (w 8)) 0 0 := by
    refine ⟨⟨b1, b2, b3, b6, b7, b8, b9, b10⟩, trivial, fun v hv => by rw [Nat.zero_mul, Nat.zero_add]; exact b12 v hv, b14, fun z hz => ?_⟩
    rw [har] at hz
    rw [Nat.zero_mul, Nat.zero_add, b15 z hz, List.getD_eq_getElem?_getD, List.getElem?_map, List.getElem?_range hz]
    rfl
  obtain ⟨j, w', g1, g2, g3⟩ := pm_text hpg (n17 := stn n17 17 (n17 17)) (R := 0) (by omega) b18 (199 * (5000 - 0) + rk (a0 f)) 7 0 f 0 (a0 f) [] (fun _ => 0) (fun _ => 0) ((List.range (np f)).map (w 8)) 0 w6 rfl hTX hf (Nat.le_refl _) ha01 (by rw [pt_T_a P (a0 f) (a0 f) (Nat.le_refl _)]; rfl) (by omega) har (by omega) (Nat.le_refl _)
  have hj : j ≤ 199 * (5000 - 0) + rk (a0 f) + 1 ∧ w' 0 8 = 0 ∧ (w' 0 0 = 2 ∨ ∃ (r : pu_Res), w' 0 0 = r.1 ∧ (r.1 ≠ 2 ∧ r.1 ≠ 9) ∧ w' 0 1 = r.2.1 ∧ (∀ z, z < 16 → w' 4 z = r.2.2 z) ∧
      ∃ N, ∀ n k, N ≤ n → N ≤ k → px_run P (px_callT P fs n 7) ((List.range (np f)).map (w 8)) k (a0 f) [] (fun _ => 0) (fun _ => 0) = some r) := by
    rcases g3 with ⟨k1, k2, k3⟩ | ⟨x, m', t', k1, k2, k3, k4, k5, k6⟩
    · refine ⟨k2, k1, k3.imp id fun ⟨o, m', o1, o2, o3, o4, o5⟩ => ⟨(o, 0, m'), o2, ⟨?_, ?_⟩, o3, o4, o5⟩⟩
      · show o ≠ 2
        rcases o1 with h | h <;> rw [h] <;> decide
      · show o ≠ 9
        rcases o1 with h | h <;> rw [h] <;> decide
    · rcases k6 with ⟨_, l1, l2, l3⟩ | ⟨l1, _⟩
      · exact ⟨by omega, l1, Or.inr ⟨(0, x, m'), l2, ⟨by show (0 : Int32) ≠ 2; decide, by show (0 : Int32) ≠ 9; decide⟩, l3, k3, k5⟩⟩
      · exact absurd rfl l1
  obtain ⟨j1, j2, j3⟩ := hj
  have hL := pm_L67 (P := P) (p1 := 0) (Bn := Bn) (Bw := Bw) (Sn := Sn) (Sw := Sw) (Cn := Cn) (Cw := Cw) (o5 := (w5, stn n17 17 (n17 17))) (mv := fun w => fX3_moveInText (stn n17 17 (n17 17)) w P) (fun w => if_pos rfl) j NF 0 w6 w' g1 j2 (by omega) (by have := pv_NF; omega)
  exact ⟨w', b19 Bn Bw Sn Sw Cn Cw w' hL, by rw [g2.2.2.2.2.2.2]; exact b16, j3⟩
end ST0
