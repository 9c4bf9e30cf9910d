/-! pure side, the law 2: load, from a program read -/
section LD
variable {P : ST} {a0 np Vn : Nat → Nat}
/-- what is asked of a program -/
def ld_P (P : ST) (a0 np Vn : Nat → Nat) : Prop := P 0 0 = pu_I 3 ∧ ∀ f, f < 3 → (∃ A, pt_fn P f (a0 f) (a0 (f + 1)) (Vn f) 3 A) ∧ P 4 f = pu_I (np f) ∧ np f ≤ 4 ∧ a0 (f + 1) ≤ 400
/-- a flow that a text made -/
def ld_F (P : ST) (a0 np : Nat → Nat) (f : Nat) (F0 : pu_Flow) (n : Nat → Nat) (w : ST) (l : SL) (n2 : Nat → Nat) (w2 : ST) : Prop :=
  pv_fn 3 (np f) F0 n w l n2 w2 ∧ (∀ call ar k m e cl r, px_run P call ar k (a0 f) [] cl m = some r → pu_run F0 call ar (4 * k + 2) 0 0 (e, m, []) = some r) ∧ (∃ R, pt_pn n R ∧ R ≤ 375)
theorem ld_make (hp : ld_P P a0 np Vn) {f : Nat} (hf : f < 3) (w : ST) (l : SL) (fw : ST) (fl : SL) (fw2 s : ST) {n n2 : Nat → Nat} {R0 : Nat} (hn : ∃ R, pt_pn n R ∧ R ≤ 375) (hR : pv_sR n2 R0) (hR0 : R0 ≤ 620) :
    ∃ k9 l7 v10 l5 n7 x9 m9 s6, fX4_make w l P (pu_I f) n fw fl n2 fw2 s = some (1, k9, l7, v10, l5, n7, x9, m9, s6) ∧ (∃ R, pt_pn n7 R ∧ R ≤ 375) ∧ (∃ R, pv_sR m9 R ∧ R ≤ 620) ∧ (R0 ≤ 256 → ∃ F0, ld_F P a0 np f F0 n7 v10 l5 m9 x9) := by
  obtain ⟨⟨A, hfn⟩, h4, hn4, ha⟩ := hp.2 f hf
  obtain ⟨R, hR1, hR2⟩ := hn
  obtain ⟨k9, l7, v10, l5, n7, x9, m9, s6, B, N, po, fo, ot, pj, Ph, ph, ch, wb, S, e1, hmr⟩ := pv_make0 (w := w) (l := l) (fw := fw) (fl := fl) (fw2 := fw2) (s := s) hfn (n := n) ⟨R, hR1, Nat.zero_le _, hR2⟩ (show R0 ≤ 50000 by omega) hR
  obtain ⟨_, _, _, ⟨⟨R7, q1, q2, q3⟩, hsn, _⟩, _, ⟨⟨_, ⟨R9, r1, r2, r3⟩, _⟩, hN, _⟩, _⟩ := id hmr
  refine ⟨k9, l7, v10, l5, n7, x9, m9, s6, e1, ⟨R7, q1, q3⟩, ⟨R9, r1, by omega⟩, fun h256 => ?_⟩
  have hfl := pv_make_fl hfn hmr h256
  have hsl := pt_mr_sl hmr
  have hnn : nn (P 4 f) = np f := by rw [h4]; exact pu_nn (by omega)
  rw [hnn] at hfl
  exact ⟨pv_F v10 x9 ch ph, ⟨B, N, _, _, _, ch, ph, wb, _, hfl, by rw [hsl]; omega, fun call ar k e m q r h => h⟩, fun call ar k m e cl r h => pv_make_run hfn hmr h, ⟨R7, q1, q3⟩⟩
theorem ld_30 (hp : ld_P P a0 np Vn) {o_1 : Int32 × ST × SL × ST × SL × ST × SL} (ho : o_1.2.2.2.1 = P) (z : Int32) (kw : ST) (kl : SL) (fw : ST) (fl : SL) (x s : ST) {n n2 : Nat → Nat} (hn : ∃ R, pt_pn n R ∧ R ≤ 375) (hR : ∃ R, pv_sR n2 R ∧ R ≤ 620) :
    ∃ kw' kl' fw' fl' n' x' n2' s', fX11_load_L30 o_1 NF 0 z 0 kw kl fw fl n x n2 s = some (0, z, kw', kl', fw', fl', n', x', n2', s') ∧ (∃ R, pt_pn n' R ∧ R ≤ 375) ∧ (∃ R, pv_sR n2' R ∧ R ≤ 620) := by
  obtain ⟨t, e1, kw', kl', fw', fl', n', x', n2', s', rfl, t1, t2⟩ := pv_for (G := fun k i (t : ST × SL × ST × SL × (Nat → Nat) × ST × (Nat → Nat) × ST) => fX11_load_L30 o_1 k 0 z i t.1 t.2.1 t.2.2.1 t.2.2.2.1 t.2.2.2.2.1 t.2.2.2.2.2.1 t.2.2.2.2.2.2.1 t.2.2.2.2.2.2.2) (hi := 3)
    (Inv := fun i t => (∃ R, pt_pn t.2.2.2.2.1 R ∧ R ≤ 375) ∧ (∃ R, pv_sR t.2.2.2.2.2.2.1 R ∧ R ≤ 620))
    (Q := fun t => ∃ kw' kl' fw' fl' n' x' n2' s', t = (0, z, kw', kl', fw', fl', n', x', n2', s') ∧ (∃ R, pt_pn n' R ∧ R ≤ 375) ∧ (∃ R, pv_sR n2' R ∧ R ≤ 620))
    (by
      rintro k i ⟨kw, kl, fw, fl, n, x, n2, s⟩ hi ⟨t1, R0, t2, t3⟩
      obtain ⟨k9, l7, v10, l5, n7, x9, m9, s6, e1, e2, e3, _⟩ := ld_make hp hi kw kl fw fl x s t1 t2 t3
      refine ⟨(k9, l7, v10, l5, n7, x9, m9, s6), ?_, e2, e3⟩
      show (if (o_1.2.2.2.1) 0 0 ≤ pu_I i then _ else ((fX4_make kw kl o_1.2.2.2.1 (pu_I i) n fw fl n2 x s).bind _)) = _
      rw [ho, hp.1, if_neg (by rw [pu_le (by omega) (by omega)]; omega), e1, Option.bind_some]
      show fX11_load_L30 o_1 k 0 z (pu_I i + 1) k9 l7 v10 l5 n7 x9 m9 s6 = _
      rw [pu_su])
    (by
      rintro k ⟨kw, kl, fw, fl, n, x, n2, s⟩ ⟨t1, t2⟩
      refine ⟨_, ?_, kw, kl, fw, fl, n, x, n2, s, rfl, t1, t2⟩
      show (if (o_1.2.2.2.1) 0 0 ≤ pu_I 3 then some (0, z, kw, kl, fw, fl, n, x, n2, s) else _) = _
      rw [ho, hp.1, if_pos (Int32.le_refl _)]) 3 0 NF (kw, kl, fw, fl, n, x, n2, s) (by omega) (by have := pv_NF; omega) ⟨hn, hR⟩
  exact ⟨kw', kl', fw', fl', n', x', n2', s', e1, t1, t2⟩
theorem ld_4 (hp : ld_P P a0 np Vn) (kw : ST) (kl : SL) (s : ST) {n0 m0 : Nat → Nat} (W : Nat → ST) (L : Nat → SL) (W2 : Nat → ST) (hn : ∃ R, pt_pn n0 R ∧ R ≤ 375) (hR : ∃ R, pv_sR m0 R ∧ R ≤ 256) :
    ∃ (c : Int32) (kw' : ST) (kl' : SL) (s' : ST) (Ns' : Nat → Nat → Nat) (W' : Nat → ST) (L' : Nat → SL) (N2' : Nat → Nat → Nat) (W2' : Nat → ST) (F0 : Nat → pu_Flow), fX11_restore_L4 P NF 0 0 kw kl s (fun _ => n0) W L (fun _ => m0) W2 = some (c, kw', kl', s', Ns', W', L', N2', W2') ∧ (∀ f, f < 3 → ld_F P a0 np f (F0 f) (Ns' f) (W' f) (L' f) (N2' f) (W2' f)) ∧ (∀ h, 3 ≤ h → Ns' h = n0 ∧ N2' h = m0) := by
  obtain ⟨t, e1, c, kw', kl', s', Ns', W', L', N2', W2', F0, rfl, t1, t2⟩ := pv_for (G := fun k i (t : Int32 × ST × SL × ST × (Nat → Nat → Nat) × (Nat → ST) × (Nat → SL) × (Nat → Nat → Nat) × (Nat → ST)) => fX11_restore_L4 P k t.1 i t.2.1 t.2.2.1 t.2.2.2.1 t.2.2.2.2.1 t.2.2.2.2.2.1 t.2.2.2.2.2.2.1 t.2.2.2.2.2.2.2.1 t.2.2.2.2.2.2.2.2) (hi := 3)
    (Inv := fun i t => ∃ F0 : Nat → pu_Flow, (∀ f, f < i → ld_F P a0 np f (F0 f) (t.2.2.2.2.1 f) (t.2.2.2.2.2.1 f) (t.2.2.2.2.2.2.1 f) (t.2.2.2.2.2.2.2.1 f) (t.2.2.2.2.2.2.2.2 f)) ∧ (∀ h, i ≤ h → t.2.2.2.2.1 h = n0 ∧ t.2.2.2.2.2.2.2.1 h = m0))
    (Q := fun t => ∃ (c : Int32) (kw' : ST) (kl' : SL) (s' : ST) (Ns' : Nat → Nat → Nat) (W' : Nat → ST) (L' : Nat → SL) (N2' : Nat → Nat → Nat) (W2' : Nat → ST) (F0 : Nat → pu_Flow), t = (c, kw', kl', s', Ns', W', L', N2', W2') ∧ (∀ f, f < 3 → ld_F P a0 np f (F0 f) (Ns' f) (W' f) (L' f) (N2' f) (W2' f)) ∧ (∀ h, 3 ≤ h → Ns' h = n0 ∧ N2' h = m0))
    (by
      rintro k i ⟨c, kw, kl, s, Ns, W, L, N2, W2⟩ hi ⟨F0, t1, t2⟩
      have t1 : ∀ f, f < i → ld_F P a0 np f (F0 f) (Ns f) (W f) (L f) (N2 f) (W2 f) := t1
      have t2 : ∀ h, i ≤ h → Ns h = n0 ∧ N2 h = m0 := t2
      obtain ⟨R, r1, r2⟩ := hR
      obtain ⟨k9, l7, v10, l5, n7, x9, m9, s6, e1, e2, e3, e4⟩ := ld_make hp hi kw kl (W i) (L i) (W2 i) s (n := Ns i) (n2 := N2 i) (by rw [(t2 i (Nat.le_refl i)).1]; exact hn) (by rw [(t2 i (Nat.le_refl i)).2]; exact r1) (by omega)
      obtain ⟨F, hF⟩ := e4 r2
      refine ⟨(c + (upF W i v10) i 0 0, k9, l7, s6, upF Ns i n7, upF W i v10, upF L i l5, upF N2 i m9, upF W2 i x9), ?_, upF F0 i F, fun f hf => ?_, fun h hh => ?_⟩
      · show (if (P 0 0) ≤ pu_I i then _ else (if ixb (pu_I i) 6 = true then (lt9 (nn (pu_I i)) fun (i3 : Nat) => ((fX4_make kw kl P (pu_I i) (Ns i3) (W i3) (L i3) (N2 i3) (W2 i3) s).bind _)) else none)) = _
        rw [hp.1, if_neg (by rw [pu_le (by omega) (by omega)]; omega), if_pos ((pu_ix (by omega)).mpr (by omega))]
        simp only [lt9]
        rw [pu_nn (by omega), e1, Option.bind_some]
        unfold fX11_restore_G33_22
        rw [if_pos ((pu_ix (by omega)).mpr (by omega))]
        simp only [lt9]
        rw [pu_nn (by omega), pu_su]
      · show ld_F P a0 np f (upF F0 i F f) (upF Ns i n7 f) (upF W i v10 f) (upF L i l5 f) (upF N2 i m9 f) (upF W2 i x9 f)
        by_cases e : f = i
        · subst e
          rw [pv_upF_s, pv_upF_s, pv_upF_s, pv_upF_s, pv_upF_s, pv_upF_s]
          exact hF
        · rw [pv_upF_n e, pv_upF_n e, pv_upF_n e, pv_upF_n e, pv_upF_n e, pv_upF_n e]
          exact t1 f (by omega)
      · show upF Ns i n7 h = n0 ∧ upF N2 i m9 h = m0
        rw [pv_upF_n (by omega), pv_upF_n (by omega)]
        exact t2 h (by omega))
    (by
      rintro k ⟨c, kw, kl, s, Ns, W, L, N2, W2⟩ ⟨F0, t1, t2⟩
      refine ⟨_, ?_, c, kw, kl, s, Ns, W, L, N2, W2, F0, rfl, t1, t2⟩
      show (if (P 0 0) ≤ pu_I 3 then _ else _) = _
      rw [hp.1, if_pos (Int32.le_refl _)]) 3 0 NF (0, kw, kl, s, fun _ => n0, W, L, fun _ => m0, W2) (by omega) (by have := pv_NF; omega) ⟨fun _ => fun _ => ([], [], (0, 0, 0, 0)), fun f hf => absurd hf (Nat.not_lt_zero f), fun _ _ => ⟨rfl, rfl⟩⟩
  exact ⟨c, kw', kl', s', Ns', W', L', N2', W2', F0, e1, t1, t2⟩
/-- load of a text that is right, and functions -/
theorem ld_V (hp : ld_P P a0 np Vn) {p0w p1w : ST} {p1l : SL} {p9w : ST} {p9l : SL} {tw : ST} {tl : SL} {S1 : ST} {Sl : SL} {Pl : SL} {Tw : ST} {Tl : SL} (hr : fX7_readProgram p1w p1l p9w p9l tw tl = some (0, S1, Sl, P, Pl, Tw, Tl)) (aw kw : ST) (kl : SL) (fw : ST) (fl : SL) (x s mw : ST) (W : Nat → ST) (L : Nat → SL) (W2 : Nat → ST) {n n2 n0 m0 : Nat → Nat}
    (hn : ∃ R, pt_pn n R ∧ R ≤ 375) (hR : ∃ R, pv_sR n2 R ∧ R ≤ 620) (hn0 : ∃ R, pt_pn n0 R ∧ R ≤ 375) (hm0 : ∃ R, pv_sR m0 R ∧ R ≤ 256) :
    ∃ (kw' : ST) (kl' : SL) (fw' : ST) (fl' : SL) (n' : Nat → Nat) (x' : ST) (n2' : Nat → Nat) (s' mw' : ST) (Ns' : Nat → Nat → Nat) (W' : Nat → ST) (L' : Nat → SL) (N2' : Nat → Nat → Nat) (W2' : Nat → ST) (F0 : Nat → pu_Flow), fV p0w p1w p1l p9w p9l tw tl aw kw kl n fw fl n2 x s mw (fun _ => n0) W L (fun _ => m0) W2 = some (upw p0w 0 10 (-1), S1, Sl, P, Pl, upw Tw 0 1 0, Tl, upw aw 0 5 0, kw', kl', fw', fl', n', x', n2', s', mw', Ns', W', L', N2', W2') ∧
      (∃ R, pt_pn n' R ∧ R ≤ 375) ∧ (∃ R, pv_sR n2' R ∧ R ≤ 620) ∧ (∀ f, f < 3 → ld_F P a0 np f (F0 f) (Ns' f) (W' f) (L' f) (N2' f) (W2' f)) ∧ (∀ h, 3 ≤ h → Ns' h = n0 ∧ N2' h = m0) := by
  obtain ⟨kw1, kl1, fw', fl', n', x', n2', s1, e1, e2, e3⟩ := ld_30 (o_1 := (0, S1, Sl, P, Pl, Tw, Tl)) hp rfl (S1 0 0) kw kl fw fl x s hn hR
  obtain ⟨c, kw', kl', s', Ns', W', L', N2', W2', F0, d1, d2, d3⟩ := ld_4 hp kw1 kl1 s1 W L W2 hn0 hm0
  obtain ⟨mw', m1, _⟩ := pm_begin (w := mw)
  refine ⟨kw', kl', fw', fl', n', x', n2', s', mw', Ns', W', L', N2', W2', F0, ?_, e2, e3, d2, d3⟩
  have hrs : fX11_restore P (fun _ => n0) W L (fun _ => m0) W2 kw1 kl1 s1 aw = some (c, kw', kl', s', upw aw 0 5 0, Ns', W', L', N2', W2') := by
    unfold fX11_restore
    rw [d1, Option.bind_some]
    rfl
  have hld : fX11_load p0w p1w p1l p9w p9l tw tl aw kw kl n fw fl n2 x s mw (fun _ => n0) W L (fun _ => m0) W2 = some (0, upw p0w 0 10 (-1), S1, Sl, P, Pl, upw Tw 0 1 0, Tl, upw aw 0 5 0, kw', kl', fw', fl', n', x', n2', s', mw', Ns', W', L', N2', W2') := by
    unfold fX11_load
    rw [hr, Option.bind_some]
    simp only [lt9]
    rw [e1, Option.bind_some]
    unfold fX11_load_G86_27
    rw [if_pos rfl]
    unfold fX11_load_J96
    simp only [lt9]
    rw [if_pos trivial, m1, Option.bind_some, hrs, Option.bind_some]
    rfl
  unfold fV
  rw [hld, Option.bind_some]
  unfold fV_G89_23
  rw [if_pos rfl]
  unfold fX11_functions
  rw [Option.bind_some, if_pos (show (P 0 0) = 3 by rw [hp.1]; rfl)]
end LD
