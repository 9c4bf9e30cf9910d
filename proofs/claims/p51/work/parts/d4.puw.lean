/-! pure side, the allocator 29: putAway, whole -/
section PAX
variable {fs na B V N H c0 wd K : Nat} {aw fw x9 w g : ST} {l : SL} {n an n2 : Nat → Nat} {qs : Nat → List Nat} {F0 : pu_Flow} {o : Int32}
theorem pa_putAway (has : pa_as F0 B N V H fw x9 n2 qs) (hsk : pa_sk fs na B c0 x9 qs) (hrm : x9 0 0 = pu_I N ∧ ∃ R, pv_sR n2 R ∧ N ≤ R ∧ R ≤ 12770) (hR : pg_room B wd V n) (hHV : H ≤ V) (hH : H < 2000) (hc0 : c0 < 50000) (hV8 : V ≤ 7110) (hK : K ≤ 8) (hcl : pg_cld n w l H V wd K x9 ((List.range B).flatMap qs) o g)
    (haw8 : aw 0 8 = pu_I V) (haw10 : aw 0 10 = pu_I c0) (ha13 : an 13 ≤ 10700) (ha14 : an 14 ≤ 10700) (hbd : V + pa_mF H (pg_F fw x9 qs) B < 100000) (hbN : N + pa_mF H (pg_F fw x9 qs) B < 8496) :
    ∃ aw' an' fw' x9' n2' qs' V' N' c1, fX0_putAway an aw n g fw n2 x9 = some (aw', an', fw', x9', n2') ∧ pa_as F0 B N' V' H fw' x9' n2' qs' ∧ pa_sk fs na B c1 x9' qs' ∧ (x9' 0 0 = pu_I N' ∧ ∃ R, pv_sR n2' R ∧ N' ≤ R ∧ R ≤ 12770) ∧
      aw' 0 8 = pu_I V' ∧ aw' 0 10 = pu_I c1 ∧ (∀ z, z ≠ 8 → z ≠ 10 → aw' 0 z = aw 0 z) ∧ (∀ r, r ≠ 0 → r ≠ 13 → r ≠ 14 → aw' r = aw r) ∧ V ≤ V' ∧
      V' + pa_mF H (pg_F fw' x9' qs') B ≤ V + pa_mF H (pg_F fw x9 qs) B ∧ N' + pa_mF H (pg_F fw' x9' qs') B ≤ N + pa_mF H (pg_F fw x9 qs) B ∧ (c0 ≤ c1 ∧ c1 ≤ c0 + H ∧ c1 + pa_gn B H x9' qs' ≤ c0 + pa_gn B H x9 qs) ∧ (an' 13 ≤ 10700 ∧ an' 14 ≤ 10700 ∧ ∀ r, r ≠ 13 → r ≠ 14 → an' r = an r) := by
  obtain ⟨_, _, _, ⟨d12, d13, d14, d15, d16, d17, d18, d19⟩, _⟩ := hR
  have hfl := has.1
  have hN := hfl.2.1.2.1
  have hlen : ((List.range B).flatMap qs).length < 1000000 := by
    have h1 := pg_flen qs N B fun b hb => pv_len N (qs b) (hfl.2.2.2.1.2.1 b hb) (hfl.2.2.2.1.1 b hb)
    have h2 := hfl.1.2.2
    have h4 : B * N ≤ 60 * N := Nat.mul_le_mul_right N h2
    omega
  obtain ⟨m1, f1, e1, _, e2⟩ := pv_atLeast (n := an 13) (k := V) (f := aw 13) (by omega) (by omega)
  obtain ⟨m2, f2, e3, _, e4⟩ := pv_atLeast (n := an 14) (k := V) (f := aw 14) (by omega) (by omega)
  obtain ⟨n8, hn8⟩ : ∃ n8, n8 = stn (stn an 13 m1) 14 m2 := ⟨_, rfl⟩
  obtain ⟨w9, hw9⟩ : ∃ w9, w9 = srw (srw aw 13 f1) 14 f2 := ⟨_, rfl⟩
  have n813 : n8 13 = m1 := by rw [hn8, pv_stn, if_neg (by decide), pv_stn, if_pos rfl]
  have n814 : n8 14 = m2 := by rw [hn8, pv_stn, if_pos rfl]
  have n8r : ∀ r, r ≠ 13 → r ≠ 14 → n8 r = an r := fun r h1 h2 => by rw [hn8, pv_stn, if_neg h2, pv_stn, if_neg h1]
  have w9r : ∀ r, r ≠ 13 → r ≠ 14 → w9 r = aw r := fun r h1 h2 => by rw [hw9, pv_srw_n h2, pv_srw_n h1]
  obtain ⟨wb, g1, g2⟩ := pa_31 (aw := aw) (w9 := w9) (g := g) (x9 := x9) (gn := n) (n2 := n2) (n8 := n8) (H := H) (c0 := c0) (N := N) (V := V) (ct := fun v => pg_ct x9 v ((List.range B).flatMap qs)) (d := (List.range B).flatMap qs) (by omega) hH hc0 (fun a ha => by
      obtain ⟨b, hb, hab⟩ := List.mem_flatMap.mp ha
      exact hfl.2.2.2.1.1 b (List.mem_range.mp hb) a hab) (by omega) hfl.2.1.1.1 hfl.2.1.1.2.2.1 d15 d16 d17 (by rw [n813]; omega) (by rw [n814]; omega) haw8 (by rw [w9r 0 (by decide) (by decide)]; exact haw10) (fun v hv => ⟨⟨(hcl.2.1 v hv).1, Nat.lt_of_le_of_lt List.countP_le_length hlen⟩, (hcl.2.1 v hv).2⟩) (fun v hv => (hcl.2.2.1 v hv).imp id fun ⟨q, q1, q2⟩ => ⟨q, by omega, q2⟩) (fun v hv hp => Classical.byContradiction fun hno => hcl.2.2.2.2.2.1 v (by omega) hv hp.1 hp.2)
  obtain ⟨c1, ⟨c2, c3⟩, c4, hss, hwr, hc5, hc6⟩ := pa_ss_of (by omega) hcl rfl g2
  have hb8 : wb 0 8 = pu_I V := by rw [hwr 0 8 (by decide) (by decide) (by decide), w9r 0 (by decide) (by decide)]; exact haw8
  have hkb := pa_kb_bd hfl hHV hss
  obtain ⟨s, h1, h2⟩ := pa_80 (aw := aw) (wb := wb) (n8 := n8) hfl (by rw [n813]; omega) (by rw [n814]; omega) haw8 hb8 hrm.1 hrm.2 (by omega) (by omega)
  obtain ⟨qs', V', N', a1, a2, a3, ⟨a4, a5⟩, a6, a7, a8, a9⟩ := pa_as_put has hHV c2 (by omega) hsk hss hbd hbN h2
  have hpz : ∀ k, pv_sm (pa_px (fun v => pg_ct x9 v ((List.range B).flatMap qs)) g) (H + k) = pv_sm (pa_px (fun v => pg_ct x9 v ((List.range B).flatMap qs)) g) H ∨ V < H + k := by
    intro k
    induction k with
    | zero => exact Or.inl rfl
    | succ k ih =>
      by_cases hk : V < H + (k + 1)
      · exact Or.inr hk
      · refine Or.inl ?_
        show pv_sm _ (H + k) + pa_px _ g (H + k) = _
        rw [ih.resolve_right (by omega), show pa_px (fun v => pg_ct x9 v ((List.range B).flatMap qs)) g (H + k) = 0 from if_neg fun h => hcl.2.2.2.2.2.1 (H + k) (by omega) (by omega) h.1 h.2]
        rfl
  have hpz := (hpz (V - H)).resolve_right (by omega)
  rw [show H + (V - H) = V by omega] at hpz
  have hgn : pv_sm (pa_px (fun v => pg_ct x9 v ((List.range B).flatMap qs)) g) H + pa_gn B H s.2.2.1 qs' ≤ pa_gn B H x9 qs := by
    unfold pa_gn
    have hadd : ∀ (f h : Nat → Nat) k, pv_sm f k + pv_sm h k = pv_sm (fun v => f v + h v) k := by
      intro f h k
      induction k with
      | zero => rfl
      | succ k ih =>
        show pv_sm f k + f k + (pv_sm h k + h k) = pv_sm (fun v => f v + h v) k + (f k + h k)
        rw [← ih]
        omega
    rw [hadd]
    refine pg_sm_mono H fun v hv => ?_
    show (if pg_ct x9 v ((List.range B).flatMap qs) ≠ 0 ∧ g 17 v = -1 then 1 else 0) + pa_b1 (pa_gvn B s.2.2.1 qs' v) ≤ pa_b1 (pa_gvn B x9 qs v)
    by_cases hp : pg_ct x9 v ((List.range B).flatMap qs) ≠ 0 ∧ g 17 v = -1
    · have h1 : pa_gvn B x9 qs v = true := by
        obtain ⟨a, q1, q2⟩ := List.countP_pos_iff.mp (Nat.pos_of_ne_zero hp.1)
        exact List.any_eq_true.mpr ⟨a, q1, q2⟩
      have h2 : pa_gvn B s.2.2.1 qs' v = false := by
        cases e : pa_gvn B s.2.2.1 qs' v with
        | false => rfl
        | true => exact absurd (a9 v (by omega) e).1 (hc6 v (by omega) hp.1 hp.2)
      rw [if_pos hp, h1, h2]
      exact Nat.le_refl _
    · rw [if_neg hp, Nat.zero_add]
      exact pa_b1_i fun h => (a9 v (by omega) h).2
  refine ⟨s.1, n8, s.2.1, s.2.2.1, s.2.2.2, qs', V', N', c1, ?_, a1, a2, a3, a4, by rw [a5 0 10 (by decide)]; exact c4, fun z z1 z2 => ?_, fun r r0 r1 r2 => ?_, a6, a7, a8, ⟨c2, c3, by omega⟩, by rw [n813]; omega, by rw [n814]; omega, n8r⟩
  · unfold fX0_putAway
    rw [haw8, e1, Option.bind_some]
    unfold fX0_putAway_G17_6 lt9
    dsimp only
    rw [haw8, show stn an 13 m1 14 = an 14 by rw [pv_stn, if_neg (by decide)], show srw aw 13 f1 14 = aw 14 from pv_srw_n (by decide), e3, Option.bind_some]
    unfold fX0_putAway_G29_12 fX0_putAway_G183_58
    dsimp only
    rw [← hn8, ← hw9, show fX0_putAway_L31 aw n g n2 x9 n8 NF 0 w9 = some wb from g1, Option.bind_some, h1, Option.bind_some]
  · rw [a5 0 z (by omega), hwr 0 z (by decide) (by decide) (by omega), w9r 0 (by decide) (by decide)]
  · funext z
    rw [a5 r z (by omega), hwr r z r1 r2 (by omega), w9r r r1 r2]
end PAX
