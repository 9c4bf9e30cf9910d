/-! pure side, the allocator 40: makeFunction and makeCode, whole -/
section MKF
variable {n n2 : Nat → Nat} {w w2 : ST} {l : SL} {B N M Lm fs na : Nat} {D : Nat → Nat → Prop} {ch ph : Nat → List Nat} {wb dm : Nat → Nat}
theorem pa_makeFunction (hfl : pv_fl n w l n2 w2 B N M Lm fs na D ch ph wb dm) (hN : N ≤ 650) {K R0 : Nat} {aw gw fw x9 : ST} {gl : SL} {an fn m2 gn : Nat → Nat} (hK2 : 2 ≤ K) (hK : K ≤ 8) (hpn : pt_pn fn R0) (hR0 : R0 ≤ 375) (hcp : pa_caps an m2 gn) (h7 : aw 0 7 = pu_I K) :
    ∃ j aw' an' fw' fn' x9' m2' g gl' gn', fX0_makeFunction an aw n w fn fw m2 x9 n2 w2 gn gw gl = some (pu_I j, aw', an', fw', fn', x9', m2', g, gl', gn') ∧ j ≤ 16 ∧ pa_caps an' m2' gn' ∧ (∃ R, pt_pn fn' R ∧ (R = R0 ∨ R ≤ 375)) ∧ (∀ r, r ≠ 0 → r ≠ 13 → r ≠ 14 → r ≠ 15 → r ≠ 16 → aw' r = aw r) ∧ (∀ z, z ≠ 8 → z ≠ 9 → z ≠ 10 → z ≠ 11 → aw' 0 z = aw 0 z) ∧
      (j ≠ 0 → ∃ H, H ≤ 1210 ∧ pa_fin fs na (pv_F w w2 ch ph) B H K 8440 an aw' an' fw' x9' m2' g gn') := by
  obtain ⟨ha, ⟨R2, hR2, hR2'⟩, hcap⟩ := hcp
  obtain ⟨H, R0', fn', aw1, fw1, x1, m21, qs, N1, e1, e2, e3, e4, e5, e6⟩ := pa_begin (gw := gw) (gl := gl) (fw := fw) (x9 := x9) hfl hN hpn hR0 hR2 hR2' h7 ha hcap
  obtain ⟨wd, hwd⟩ : ∃ wd, wd = (H + 63) / 64 := ⟨_, rfl⟩
  have hwd2 : wd ≤ 19 := by omega
  have hg1 : ∀ aw2, pa_awk aw1 aw2 → (∀ r, r ≠ 0 → r ≠ 13 → r ≠ 14 → r ≠ 15 → r ≠ 16 → aw2 r = aw r) ∧ (∀ z, z ≠ 8 → z ≠ 9 → z ≠ 10 → z ≠ 11 → aw2 0 z = aw 0 z) := fun aw2 ⟨q1, q2⟩ =>
    ⟨fun r r0 r3 r4 r5 r6 => by rw [q1 r r0 r3 r4, e5 r r0 r5 r6], fun z z8 z9 z10 z11 => by rw [q2 z z8 z10 z11, e6 z z8 z9 z10 z11]⟩
  obtain ⟨res, f1, f2⟩ := pa_L101 (an0 := an) (fn := fn') hwd (by omega) (by omega) (by omega) (by omega) hK2 hK 16 1 NF aw1 an fw1 x1 m21 gw gl gn qs N1 H 0 (by omega) (by have := pv_NF; omega) e2
  rw [e1, show fX0_makeFunction_L101 NF 1 aw1 an fw1 fn' x1 m21 gw gl gn = some res from f1, Option.bind_some]
  rcases f2 with ⟨aw2, an2, fw2, x2, m22, g, l2, n2', rfl, g1, g2⟩ | ⟨j, aw2, an2, fw2, x2, m22, g, l2, n2', rfl, ⟨g0, g0'⟩, g3, g1, g2⟩
  · obtain ⟨k1, k2⟩ := hg1 aw2 g1
    exact ⟨0, aw2, an2, fw2, fn', x2, m22, g, l2, n2', rfl, Nat.zero_le _, g2, ⟨R0', e4⟩, k1, k2, fun h => absurd rfl h⟩
  · obtain ⟨k1, k2⟩ := hg1 aw2 g1
    exact ⟨j, aw2, an2, fw2, fn', x2, m22, g, l2, n2', rfl, g0', g2, ⟨R0', e4⟩, k1, k2, fun _ => ⟨H, e3, g3⟩⟩
end MKF
theorem pa_ok_pre {F00 F0 F : pu_Flow} {L : Nat → Prop} {V : Nat → Int32 → Prop} (hr : ∀ call ar k e m q r, pu_run F00 call ar k 0 0 (e, m, q) = some r → pu_run F0 call ar k 0 0 (e, m, q) = some r) (h : pa_ok F0 F L V) : pa_ok F00 F L V :=
  ⟨h.1, h.2.1, h.2.2.1, h.2.2.2.1, h.2.2.2.2.1, fun call ar k e0 m r h9 e z => h.2.2.2.2.2 call ar k e0 m r (hr _ _ _ _ _ _ _ h9) e z⟩
theorem pa_fin_aw {fs na B H K CN : Nat} {F0 : pu_Flow} {an0 an n2 n : Nat → Nat} {aw aw' fw x9 g : ST} (h : pa_fin fs na F0 B H K CN an0 aw an fw x9 n2 g n) (e : aw' 0 10 = aw 0 10) : pa_fin fs na F0 B H K CN an0 aw' an fw x9 n2 g n := by
  obtain ⟨N, V, c1, qs, W', h1, h2, h3, h4, h5⟩ := h
  exact ⟨N, V, c1, qs, W', h1, h2, h3, ⟨by rw [e]; exact h4.1, h4.2⟩, h5⟩
/-- the code of a function -/
def pa_cdd (fs na : Nat) (F0 : pu_Flow) (K : Nat) (aw : ST) (Cn : Nat → Nat → Nat) (Cw : Nat → ST) (f : Nat) : Prop :=
  ∃ j S M, (1 ≤ j ∧ j ≤ 16 ∧ aw 5 f = pu_I j) ∧ (aw 3 f = pu_I S ∧ S ≤ 1210) ∧ (Cw f 0 0 = pu_I M ∧ 0 < M ∧ M ≤ 8560 ∧ ∃ R, pv_sR (Cn f) R ∧ M ≤ R) ∧ (∀ i, i < M → pa_cl (Cw f) M fs na K S i) ∧
    ∃ B Fc W' ln, pa_ok F0 Fc (fun b => b < B) W' ∧ pu_lay Fc (fun b => b < B) (pv_S (Cw f)) ln ∧ ln 0 = 0
theorem pa_cdd_cg {fs na K f : Nat} {F0 : pu_Flow} {aw aw' : ST} {Cn Cn' : Nat → Nat → Nat} {Cw Cw' : Nat → ST} (h5 : aw' 5 f = aw 5 f) (h3 : aw' 3 f = aw 3 f) (hn : Cn' f = Cn f) (hw : Cw' f = Cw f) (h : pa_cdd fs na F0 K aw Cn Cw f) : pa_cdd fs na F0 K aw' Cn' Cw' f := by
  unfold pa_cdd
  rw [h5, h3, hn, hw]
  exact h
/-- what of the allocator stays between calls -/
def pa_keep (aw : ST) (an fn m2 gn : Nat → Nat) (Cn : Nat → Nat → Nat) : Prop :=
  (∀ c, c < 61 → aw 17 c = pu_I (nn (aw 17 c))) ∧ pa_caps an m2 gn ∧ (∃ R, pt_pn fn R ∧ R ≤ 375) ∧ ∀ h, h < 6 → ∃ R, pv_sR (Cn h) R ∧ R ≤ 12950 ∧ (3 ≤ h → R ≤ 256)
section MKC
variable {fs K : Nat} {nas : Nat → Nat} {F0 : Nat → pu_Flow} {Ns N2 : Nat → Nat → Nat} {W W2 : Nat → ST} {L : Nat → SL}
theorem pa_L16 (hfs : fs ≤ 3) (hc : pv_cls fs fs nas F0 Ns W L N2 W2) (hK2 : 2 ≤ K) (hK : K ≤ 8) :
    ∀ (m f k : Nat) (A : Nat) (aw : ST) (an : Nat → Nat) (fw : ST) (fn : Nat → Nat) (x9 : ST) (m2 : Nat → Nat) (gw : ST) (gl : SL) (gn : Nat → Nat) (Cn : Nat → Nat → Nat) (Cw : Nat → ST), f + m = fs → m < k → A ≤ f * 8560 → aw 0 7 = pu_I K → aw 0 5 = 0 → pa_keep aw an fn m2 gn Cn → (∀ h, h < f → pa_cdd fs (nas h) (F0 h) K aw Cn Cw h) →
      ∃ res, fX0_makeCode_L16 Ns W N2 W2 (pu_I fs) k (pu_I A) (pu_I f) aw an fw fn x9 m2 gw gl gn Cn Cw = some res ∧
        ((∃ aw' an' fw' fn' x9' m2' g gl' gn' Cn' Cw', res = .inl (-1, aw', an', fw', fn', x9', m2', g, gl', gn', Cn', Cw') ∧ aw' 0 5 = 0 ∧ pa_keep aw' an' fn' m2' gn' Cn') ∨
         ∃ A' aw' an' fw' fn' x9' m2' g gl' gn' Cn' Cw', res = .inr (pu_I A', aw', an', fw', fn', x9', m2', g, gl', gn', Cn', Cw') ∧ A' ≤ fs * 8560 ∧ pa_keep aw' an' fn' m2' gn' Cn' ∧ ∀ h, h < fs → pa_cdd fs (nas h) (F0 h) K aw' Cn' Cw' h) := by
  intro m
  induction m with
  | zero =>
    intro f k A aw an fw fn x9 m2 gw gl gn Cn Cw hf hk hA h7 h5 hkp hcd
    obtain ⟨k', rfl⟩ : ∃ k', k = k' + 1 := ⟨k - 1, by omega⟩
    obtain rfl : f = fs := by omega
    refine ⟨_, ?_, Or.inr ⟨A, aw, an, fw, fn, x9, m2, gw, gl, gn, Cn, Cw, rfl, hA, hkp, hcd⟩⟩
    show (if pu_I f ≤ pu_I f then some (Sum.inr (pu_I A, aw, an, fw, fn, x9, m2, gw, gl, gn, Cn, Cw)) else _) = _
    rw [if_pos (Int32.le_refl _)]
  | succ m ih =>
    intro f k A aw an fw fn x9 m2 gw gl gn Cn Cw hf hk hA h7 h5 hkp hcd
    obtain ⟨k', rfl⟩ : ∃ k', k = k' + 1 := ⟨k - 1, by omega⟩
    have hff : f < fs := by omega
    obtain ⟨hw17, hcaps, ⟨R0, hpn, hR0⟩, hCn⟩ := hkp
    obtain ⟨B, N, M, Lm, D, ch, ph, wb, dm, hfl, hN, hrun⟩ := hc f hff
    obtain ⟨j, aw1, an1, fw1, fn1, x1, m21, g1, gl1, gn1, e1, e2, e3, ⟨R1, e4, e4'⟩, e5, e6, e7⟩ := pa_makeFunction (gw := gw) (gl := gl) (fw := fw) (x9 := x9) (m2 := m2) hfl (by omega) hK2 hK hpn hR0 hcaps h7
    have hix : ixb (pu_I f) 6 = true := (pu_ix (by omega)).mpr (by omega)
    have hnnf : nn (pu_I f) = f := pu_nn (by omega)
    have hgo : fX0_makeCode_L16 Ns W N2 W2 (pu_I fs) (k' + 1) (pu_I A) (pu_I f) aw an fw fn x9 m2 gw gl gn Cn Cw = fX0_makeCode_G30_56 (fX0_makeCode_L16 Ns W N2 W2 (pu_I fs) k') (pu_I A) (pu_I f) Cn Cw (pu_I j, aw1, an1, fw1, fn1, x1, m21, g1, gl1, gn1) := by
      show (if pu_I fs ≤ pu_I f then some (Sum.inr (pu_I A, aw, an, fw, fn, x9, m2, gw, gl, gn, Cn, Cw)) else (if ixb (pu_I f) 6 = true then (lt9 (nn (pu_I f)) fun (i5 : Nat) => ((fX0_makeFunction an aw (Ns i5) (W i5) fn fw m2 x9 (N2 i5) (W2 i5) gn gw gl).bind fun o_6 => (fX0_makeCode_G30_56 (fX0_makeCode_L16 Ns W N2 W2 (pu_I fs) k') (pu_I A) (pu_I f) Cn Cw o_6))) else none)) = _
      rw [if_neg (by rw [pu_le (by omega) (by omega)]; omega), if_pos hix]
      unfold lt9
      dsimp only
      rw [hnnf, e1, Option.bind_some]
    rw [hgo]
    unfold fX0_makeCode_G30_56
    dsimp only
    by_cases hj : j = 0
    · rw [if_pos (by rw [hj]; rfl)]
      exact ⟨_, rfl, Or.inl ⟨aw1, an1, fw1, fn1, x1, m21, g1, gl1, gn1, Cn, Cw, rfl, by rw [e6 5 (by decide) (by decide) (by decide) (by decide)]; exact h5, fun c hc => by rw [e5 17 (by decide) (by decide) (by decide) (by decide) (by decide)]; exact hw17 c hc, e3, ⟨R1, e4, by omega⟩, hCn⟩⟩
    · obtain ⟨H, hH, hfin⟩ := e7 hj
      have hj0 : ¬ pu_I j = 0 := fun h => hj (pu_inj (b := 0) (by omega) (by decide) h)
      rw [if_neg hj0]
      simp only [if_pos hix, lt9, hnnf]
      obtain ⟨w63, hw63⟩ : ∃ w63, w63 = upw (upw (upw aw1 5 f (pu_I j)) 3 f (aw1 0 10)) 4 f (aw1 0 11) := ⟨_, rfl⟩
      have h63 : ∀ r, r ≠ 5 → r ≠ 3 → r ≠ 4 → w63 r = aw1 r := fun r a b c => by rw [hw63, pv_upw_n c, pv_upw_n b, pv_upw_n a]
      have h635 : ∀ z, w63 5 z = if z = f then pu_I j else aw1 5 z := fun z => by
        rw [hw63, pv_upw_n (by decide), pv_upw_n (by decide), pv_upw]
        by_cases e : z = f
        · rw [if_pos ⟨rfl, e⟩, if_pos e]
        · rw [if_neg (fun h => e h.2), if_neg e]
      have h633 : ∀ z, w63 3 z = if z = f then aw1 0 10 else aw1 3 z := fun z => by
        rw [hw63, pv_upw_n (by decide), pv_upw]
        by_cases e : z = f
        · rw [if_pos ⟨rfl, e⟩, if_pos e]
        · rw [if_neg (fun h => e h.2), if_neg e, pv_upw_n (by decide)]
      obtain ⟨aw2, c2, nc2, Fc, W', ln, Ml, S, t1, t2, t3, t4, ⟨t5, t5'⟩, ⟨Rc, t6, t6', t6''⟩, t7, t8, ⟨t9, t9'⟩, t10, t11⟩ := pa_fin_code (c9 := Cw f) (cn := Cn f) (pa_fin_aw (aw' := w63) hfin (by rw [h63 0 (by decide) (by decide) (by decide)])) (by omega) (fun c hc => by
        rw [h63 17 (by decide) (by decide) (by decide), e5 17 (by decide) (by decide) (by decide) (by decide) (by decide)]
        exact hw17 c hc) (by obtain ⟨R9, z1, z2, _⟩ := hCn f (by omega); exact ⟨R9, z1, z2⟩)
      have hcall : fX0_writeCode (upw (upw (upw aw1 5 f (pu_I j)) 3 f (upw aw1 5 f (pu_I j) 0 10)) 4 f (upw (upw aw1 5 f (pu_I j)) 3 f (upw aw1 5 f (pu_I j) 0 10) 0 11)) (Cn f) (Cw f) fw1 m21 x1 gn1 g1 = some (aw2, c2, nc2) := by
        rw [pv_upw_n (show (0 : Nat) ≠ 5 by decide), pv_upw_n (show (0 : Nat) ≠ 3 by decide), pv_upw_n (show (0 : Nat) ≠ 5 by decide), ← hw63]
        exact t1
      rw [hcall, Option.bind_some]
      unfold fX0_makeCode_G81_77 lt9
      dsimp only
      rw [if_pos hix, hnnf, pv_upF_s, t5, pv_add, pu_su]
      have q0 : ∀ z, z ≠ 8 → z ≠ 9 → z ≠ 10 → z ≠ 11 → aw2 0 z = aw 0 z := fun z a b c d => by rw [t7 0 (by decide), h63 0 (by decide) (by decide) (by decide), e6 z a b c d]
      have hrow : ∀ h, h ≠ f → aw2 5 h = aw 5 h ∧ aw2 3 h = aw 3 h := fun h hh => by
        rw [t7 5 (by decide), t7 3 (by decide), h635, h633, if_neg hh, if_neg hh, e5 5 (by decide) (by decide) (by decide) (by decide) (by decide), e5 3 (by decide) (by decide) (by decide) (by decide) (by decide)]
        exact ⟨rfl, rfl⟩
      have hAs : A + Ml ≤ (f + 1) * 8560 := by rw [Nat.succ_mul]; omega
      refine ih (f + 1) k' (A + Ml) aw2 an1 fw1 fn1 x1 m21 g1 gl1 gn1 (upF Cn f nc2) (upF Cw f c2) (by omega) (by omega) hAs (by rw [q0 7 (by decide) (by decide) (by decide) (by decide)]; exact h7) (by rw [q0 5 (by decide) (by decide) (by decide) (by decide)]; exact h5) ⟨t8, e3, ⟨R1, e4, by omega⟩, fun h hh => ?_⟩ fun h hh => ?_
      · by_cases e : h = f
        · rw [e, pv_upF_s]; exact ⟨Rc, t6, t6'', fun h9 => by omega⟩
        · rw [pv_upF_n e]; exact hCn h hh
      · by_cases e : h = f
        · subst e
          refine ⟨j, S, Ml, ⟨by omega, e2, by rw [t7 5 (by decide), h635, if_pos rfl]⟩, ⟨?_, by omega⟩, ?_, ?_, B, Fc, W', ln, pa_ok_pre hrun t2, ?_, t4⟩
          · rw [t7 3 (by decide), h633, if_pos rfl, ← h63 0 (by decide) (by decide) (by decide)]; exact t9
          · rw [pv_upF_s, pv_upF_s]
            exact ⟨t5, t10, by omega, Rc, t6, t6'⟩
          · rw [pv_upF_s]; exact t11
          · rw [pv_upF_s]; exact t3
        · exact pa_cdd_cg (hrow h e).1 (hrow h e).2 (pv_upF_n e) (pv_upF_n e) (hcd h (by omega))
theorem pa_makeCode (hfs : fs ≤ 3) (hc : pv_cls fs fs nas F0 Ns W L N2 W2) (hK2 : 2 ≤ K) (hK : K ≤ 8) {aw : ST} {an : Nat → Nat} {fw : ST} {fn : Nat → Nat} {x9 : ST} {m2 : Nat → Nat} {gw : ST} {gl : SL} {gn : Nat → Nat} {Cn : Nat → Nat → Nat} {Cw : Nat → ST} (hkp : pa_keep aw an fn m2 gn Cn) :
    ∃ v aw' an' fw' fn' x9' m2' g gl' gn' Cn' Cw', fX0_makeCode an aw Ns W N2 W2 (pu_I fs) (pu_I K) fn fw m2 x9 gn gw gl Cn Cw = some (v, aw', an', fw', fn', x9', m2', g, gl', gn', Cn', Cw') ∧ pa_keep aw' an' fn' m2' gn' Cn' ∧
      ((v = -1 ∧ aw' 0 5 = 0) ∨ (∃ A, v = pu_I A ∧ A ≤ fs * 8560) ∧ aw' 0 5 = 1 ∧ ∀ h, h < fs → pa_cdd fs (nas h) (F0 h) K aw' Cn' Cw' h) := by
  obtain ⟨w2', hw2⟩ : ∃ w2', w2' = upw (upw aw 0 7 (pu_I K)) 0 5 0 := ⟨_, rfl⟩
  have hr : ∀ r, r ≠ 0 → w2' r = aw r := fun r h => by rw [hw2, pv_upw_n h, pv_upw_n h]
  obtain ⟨res, e1, e2⟩ := pa_L16 hfs hc hK2 hK fs 0 NF 0 w2' an fw fn x9 m2 gw gl gn Cn Cw (by omega) (by have := pv_NF; omega) (Nat.zero_le _) (by rw [hw2, pv_upw, if_neg (by decide), pv_upw, if_pos ⟨rfl, rfl⟩]) (by rw [hw2, pv_upw, if_pos ⟨rfl, rfl⟩]) ⟨fun c hc9 => by rw [hr 17 (by decide)]; exact hkp.1 c hc9, hkp.2⟩ (fun h hh => absurd hh (Nat.not_lt_zero h))
  have hgo : fX0_makeCode an aw Ns W N2 W2 (pu_I fs) (pu_I K) fn fw m2 x9 gn gw gl Cn Cw = Sum.elim (fun r => some r) (fun t16 => fX0_makeCode_G102_80 t16) res := by
    unfold fX0_makeCode lt9
    dsimp only
    rw [← hw2, show fX0_makeCode_L16 Ns W N2 W2 (pu_I fs) NF 0 0 w2' an fw fn x9 m2 gw gl gn Cn Cw = some res from e1, Option.bind_some]
  rw [hgo]
  rcases e2 with ⟨aw', an', fw', fn', x9', m2', g, gl', gn', Cn', Cw', rfl, g1, g2⟩ | ⟨A', aw', an', fw', fn', x9', m2', g, gl', gn', Cn', Cw', rfl, g1, g2, g3⟩
  · exact ⟨-1, aw', an', fw', fn', x9', m2', g, gl', gn', Cn', Cw', rfl, g2, Or.inl ⟨rfl, g1⟩⟩
  · refine ⟨pu_I A', upw aw' 0 5 1, an', fw', fn', x9', m2', g, gl', gn', Cn', Cw', rfl, ⟨fun c hc9 => by rw [pv_upw_n (by decide)]; exact g2.1 c hc9, g2.2⟩, Or.inr ⟨⟨A', rfl, g1⟩, by rw [pv_upw, if_pos ⟨rfl, rfl⟩], fun h hh => pa_cdd_cg (by rw [pv_upw_n (by decide)]) (by rw [pv_upw_n (by decide)]) rfl rfl (g3 h hh)⟩⟩
end MKC
