/-! pure side, the allocator 39: a function begins, whole -/
section BGW
variable {n n2 : Nat → Nat} {w w2 : ST} {l : SL} {B N M Lm fs na : Nat} {D : Nat → Nat → Prop} {ch ph : Nat → List Nat} {wb dm : Nat → Nat}
/-- what is asked of the flow ahead of copies -/
theorem pa_cph_of (hfl : pv_fl n w l n2 w2 B N M Lm fs na D ch ph wb dm) (hN : N ≤ 650) {v x9 : ST} {m m2 : Nat → Nat} {q : Nat → List Nat} {R : Nat} (hv0 : v 0 0 = pu_I B) (hR : pt_pn m R) (hRp : pv_sl ph B ≤ R) (hdq : pv_dis B (pv_sl ph B) q) (hwv : pv_wys B v wb)
    (hq : ∀ b, b < B → (∀ p, p < 60 → (q b).map (pa_mv v p) = (ph b).map (pa_mv w p)) ∧ v 8 b = w 8 b ∧ v 9 b = w 9 b ∧ v 10 b = w 10 b ∧ v 11 b = w 11 b) :
    pa_cph B (pv_sl ph B) Lm (pv_sl ch B) m (pv_F w w2 ch ph) v q wb := by
  have hphi := pv_sl_phi hfl
  obtain ⟨⟨hok, hrg, hgk, hw, htk⟩, hend, hsu, hS, hd, hdb, hlp, hdmw, hdm, ⟨hLw, hL, hLp, hLs⟩, hcp, hN0, hno, hnf⟩ := id hfl
  obtain ⟨⟨hw0, hB0, hB⟩, _, _, hst, hdc, hph, hdp, hix, hix2⟩ := id hok
  have hslN := pv_sl_le hdc
  have hvr : ∀ p, p < B → v 8 p = w 8 p ∧ v 10 p = w 10 p ∧ v 11 p = w 11 p := fun p hp => ⟨(hq p hp).2.1, (hq p hp).2.2.2.1, (hq p hp).2.2.2.2⟩
  have hlen : ∀ c, c < B → (q c).length = (ph c).length := fun c hc => by
    have h9 := congrArg List.length ((hq c hc).1 0 (by omega))
    rw [List.length_map, List.length_map] at h9
    exact h9
  refine ⟨hB, fun c hc p hp => ?_, fun p c hp hc h23 he => ?_, fun p c hp hc he => ?_, fun p c c' hp hc hc' h22 he he' => ?_, fun c hc => ?_, fun c hc a ha => ?_, ⟨hdq.1, by rw [hR.1]; exact hRp, by rw [hR.2.1]; exact hRp, ?_, by omega⟩, hwv, by omega, by omega, hv0⟩
  · unfold pa_mvs pa_ml
    rw [(hq c hc).1 p (by omega)]
    show ((ph c).map (pa_mv w p)).filter _ = (((ph c).map (pv_P w)).map (fun z => (z.1, z.2 p))).filter _
    rw [List.map_map]
    rfl
  · have h9 : ph c = [] := hnf.1 p c hp hc (by rw [← (hvr p hp).1]; exact h23) (by
      unfold pv_eg at he
      rw [(hvr p hp).2.1, (hvr p hp).2.2] at he
      exact he)
    have h8 := hlen c hc
    rw [h9] at h8
    exact List.eq_nil_of_length_eq_zero h8
  · unfold pv_eg at he
    rw [(hvr p hp).2.1, (hvr p hp).2.2] at he
    rw [(hvr p hp).1]
    obtain ⟨_, _, h1, _, _, h24⟩ := hend p hp
    rcases h1 with h1 | h1 | h1
    · exact Or.inl h1
    · exact Or.inr h1
    · exfalso
      obtain ⟨a1, a2⟩ := h24 h1
      rcases he with he | he
      · rw [he] at a1
        exact absurd a1 (by rw [show (0 : Int32) = pu_I 0 from rfl, pu_lt (by omega) (by omega)]; omega)
      · rw [he] at a2
        exact absurd a2 (by rw [show (0 : Int32) = pu_I 0 from rfl, pu_lt (by omega) (by omega)]; omega)
  · unfold pv_eg at he he'
    rw [(hvr p hp).2.1, (hvr p hp).2.2] at he he'
    rw [(hvr p hp).1] at h22
    obtain ⟨_, _, _, h1, _, _⟩ := hend p hp
    have h11 := (h1 h22).2
    have hx : ∀ c, c < B → w 11 p ≠ pu_I c := fun c hc e => by
      rw [e] at h11
      exact absurd h11 (by rw [show (0 : Int32) = pu_I 0 from rfl, pu_lt (by omega) (by omega)]; omega)
    have e1 := he.resolve_right (hx c hc)
    have e2 := he'.resolve_right (hx c' hc')
    rw [e1] at e2
    exact pu_inj (by omega) (by omega) e2
  · rw [hlen c hc]
    exact hnf.2.1 c hc
  · have h9 : pa_mv v 0 a ∈ (ph c).map (pa_mv w 0) := by
      rw [← (hq c hc).1 0 (by omega)]
      exact List.mem_map_of_mem ha
    obtain ⟨a', ha', e⟩ := List.mem_map.mp h9
    have e : w 19 a' = v 19 a := congrArg Prod.fst e
    exact ⟨_, hLp c hc a' ha', by rw [← e]; exact pu_of (pv_ixn (hix c hc a' ha')).1⟩
  · have := hR.2.2.1
    omega
theorem pa_begin (hfl : pv_fl n w l n2 w2 B N M Lm fs na D ch ph wb dm) (hN : N ≤ 650) {K R0 R2 : Nat} {aw gw fw x9 : ST} {gl : SL} {an fn m2 gn : Nat → Nat} (hpn : pt_pn fn R0) (hR0 : R0 ≤ 375) (hR2 : pv_sR m2 R2) (hR2' : R2 ≤ 12770) (h7 : aw 0 7 = pu_I K) (ha : an 13 ≤ 10700 ∧ an 14 ≤ 10700) (hcap : pg_cap gn) :
    ∃ H R0' fn' aw1 fw1 x1 m21 qs N1, fX0_makeFunction an aw n w fn fw m2 x9 n2 w2 gn gw gl = ((fX0_makeFunction_L101 NF 1 aw1 an fw1 fn' x1 m21 gw gl gn).bind fun o101 => Sum.elim (fun r => some r) (fun t101 => fX0_makeFunction_G206_131 t101) o101) ∧
      pa_rst fs na (pv_F w w2 ch ph) B H K 7080 8440 1 aw1 an fw1 x1 m21 gn qs N1 H 0 ∧ H ≤ 1210 ∧ (pt_pn fn' R0' ∧ (R0' = R0 ∨ R0' ≤ 375)) ∧ (∀ r, r ≠ 0 → r ≠ 15 → r ≠ 16 → aw1 r = aw r) ∧ (∀ j, j ≠ 8 → j ≠ 9 → j ≠ 10 → j ≠ 11 → aw1 0 j = aw 0 j) := by
  have hphi := pv_sl_phi hfl
  obtain ⟨⟨hok, hrg, hgk, hw, htk⟩, hend, hsu, hS, hd, hdb, hlp, hdmw, hdm, ⟨hLw, hL, hLp, hLs⟩, hcp, hN0, hno, hnf⟩ := id hfl
  obtain ⟨⟨hw0, hB0, hB⟩, ⟨k2, k3, k4, k5, k6, kN⟩, ⟨k19, k20, k21, kM⟩, hst, hdc, hph, hdp, hix, hix2⟩ := id hok
  have hslN := pv_sl_le hdc
  obtain ⟨v, m, x, m1, e1, e2, e3⟩ := pa_copyFrom (p0w := fw) (x9 := x9) hw0 hB hLw k2 k3 k4 k5 k6 kN k19 k20 k21 kM hst hdc hph hdp (by omega) (by omega) hw hR0 hpn hR2 hR2'
  obtain ⟨⟨a1, a2, a3, a4⟩, ⟨R, b1, b2, b3⟩, ⟨R9, b4, b5, b6⟩, q, qs, c1, c2, c3, c4, c5⟩ := e2
  have hcph : pa_cph B (pv_sl ph B) Lm (pv_sl ch B) m (pv_F w w2 ch ph) v q wb := pa_cph_of hfl hN (x9 := x) (m2 := m1) a1 b1 b2 c2 e3 fun b hb => ⟨(c5 b hb).2.1, (c5 b hb).2.2.1, (c5 b hb).2.2.2.1, (c5 b hb).2.2.2.2.1, (c5 b hb).2.2.2.2.2.1⟩
  obtain ⟨w19, hw19⟩ : ∃ w19, w19 = upw aw 0 8 (v 0 1) := ⟨_, rfl⟩
  have hw19n : ∀ r z, ¬ (r = 0 ∧ z = 8) → w19 r z = aw r z := fun r z h => by rw [hw19, pv_upw, if_neg h]
  have hf0 : ∀ f : Nat → List Nat, pv_fst 0 f q = q := fun f => by
    funext b
    unfold pv_fst
    rw [if_neg (Nat.not_lt_zero b)]
  have hsm0 : pv_sm (fun _ => 0) B = 0 := by
    have := pv_sm_le (f := fun _ => 0) (c := 0) (fun _ => Nat.le_refl 0) B
    omega
  have hJ0 : pa_cpj B Lm (pv_sl ch B) (pv_F w w2 ch ph) w19 v q wb 0 0 w19 v x m1 := by
    refine ⟨fun _ => 0, qs, Lm, pv_sl ch B, fun _ => Nat.zero_le _, ⟨?_, Nat.le_refl _, by omega⟩, ⟨by omega, a4, R9, b4, b5, b6⟩, ⟨c3, c4⟩, ⟨fun _ _ _ _ => rfl, fun _ _ => rfl⟩, ⟨fun _ _ _ _ _ => rfl, by rw [hf0]; exact c1⟩, fun p hp => ⟨[], ?_, Or.inr ⟨rfl, rfl⟩⟩, fun p hp h22 => ⟨fun h => absurd h (show ¬ (0 : Nat) = 1 by decide), ?_⟩⟩
    · rw [hw19, pv_upw, if_pos ⟨rfl, rfl⟩]; exact a2
    · rw [List.append_nil]; exact (c5 p hp).1
    · rintro ⟨c, _, _, h | ⟨_, j, j1, j2, _⟩⟩ <;> omega
  obtain ⟨w5, fw5, x5, m5, f1, f2⟩ := pa_21 hcph (o1 := (v, m, x, m1)) rfl B 0 NF w19 v x m1 (by omega) (by have := pv_NF; omega) hJ0
  obtain ⟨χ, q5, V, N5, j1, ⟨j2, j2a, j2b⟩, ⟨j3, j3a, j3b⟩, ⟨j4, j4a⟩, ⟨j5, j5a⟩, ⟨j6, j6a⟩, j7, j8⟩ := f2
  have hsm1 : pv_sm χ B ≤ 1 * B := pv_sm_le j1 B
  obtain ⟨aw1, haw1⟩ : ∃ aw1, aw1 = upw (upw (upw w5 0 9 (w5 0 8)) 0 10 0) 0 11 0 := ⟨_, rfl⟩
  have haw1n : ∀ r z, ¬ (r = 0 ∧ (z = 9 ∨ z = 10 ∨ z = 11)) → aw1 r z = w5 r z := fun r z h => by
    rw [haw1, pv_upw, if_neg (by omega), pv_upw, if_neg (by omega), pv_upw, if_neg (by omega)]
  have hF8 : ∀ b, b < B → fw5 8 b = w 8 b ∧ fw5 9 b = w 9 b ∧ fw5 10 b = w 10 b ∧ fw5 11 b = w 11 b := fun b hb => by
    obtain ⟨_, _, d8, d9, d10, d11, _⟩ := c5 b hb
    rw [j6 8 (by decide) (by decide) (by decide) (by decide), j6 9 (by decide) (by decide) (by decide) (by decide), j6 10 (by decide) (by decide) (by decide) (by decide), j6 11 (by decide) (by decide) (by decide) (by decide)]
    exact ⟨d8, d9, d10, d11⟩
  have hG2 : ∀ b, b < B → (pg_F fw5 x5 q5 b).2.2 = (pv_F w w2 ch ph b).2.2 := fun b hb => by
    obtain ⟨d8, d9, d10, d11⟩ := hF8 b hb
    show (fw5 8 b, fw5 9 b, fw5 10 b, fw5 11 b) = (w 8 b, w 9 b, w 10 b, w 11 b)
    rw [d8, d9, d10, d11]
  -- what was put behind each block
  have hcs : ∀ p, p < B → ∃ cs, (pg_F fw5 x5 q5 p).2.1 = (pv_F w w2 ch ph p).2.1 ++ cs ∧ (∀ s, s ∈ cs → s.1 = 25) ∧ (∀ s, s ∈ cs → pa_sq fs na V 0 s) ∧ ((cs = [] ∧ ∀ c, pu_sc (pv_F w w2 ch ph) p c → (pv_F w w2 ch ph c).1 = []) ∨
      (∃ c V1 V2, pu_sc (pv_F w w2 ch ph) p c ∧ (∀ c', pu_sc (pv_F w w2 ch ph) p c' → c' = c) ∧ pu_pmr cs (pa_ml (pv_F w w2 ch ph) p c) V1 V2 ∧ V2 < 2147483648 ∧ (∀ z, z ∈ (pv_F w w2 ch ph c).1 → nn z.1 < V1 ∧ nn (z.2 p) < V1) ∧ ∀ u, pu_av (pv_F w w2 ch ph) D p (pv_F w w2 ch ph p).2.1 u → nn u < V1)) := by
    intro p hp
    obtain ⟨cs, s1, s2⟩ := j7 p hp
    have hegsc : ∀ c, c < B → pv_eg v p c → pu_sc (pv_F w w2 ch ph) p c := fun c hc he => by
      have h24 := hcph.2.2.2.1 p c hp hc he
      obtain ⟨_, _, d8, d9, d10, d11, _⟩ := c5 p hp
      rw [d8] at h24
      unfold pv_eg at he
      rw [d10, d11] at he
      show w 8 p ≠ 24 ∧ (c = nn (w 10 p) ∨ (w 8 p = 23 ∧ c = nn (w 11 p)))
      refine ⟨fun h => by rcases h24 with h9 | h9 <;> (rw [h] at h9; exact absurd h9 (by decide)), ?_⟩
      rcases he with he | he
      · exact Or.inl (by rw [he, pu_nn (by omega)])
      · rcases h24 with h9 | h9
        · exfalso
          have h8 := ((hend p hp).2.2.2.1 h9).2
          rw [he] at h8
          exact absurd h8 (by rw [show (0 : Int32) = pu_I 0 from rfl, pu_lt (by omega) (by omega)]; omega)
        · exact Or.inr ⟨h9, by rw [he, pu_nn (by omega)]⟩
    have hsceg : ∀ c, pu_sc (pv_F w w2 ch ph) p c → c < B ∧ pv_eg v p c := fun c hsc => by
      refine ⟨hS.2.1.1 p c hp hsc, ?_⟩
      obtain ⟨_, _, d8, d9, d10, d11, _⟩ := c5 p hp
      unfold pv_eg
      rw [d10, d11]
      exact hsu p c hp hsc
    have hqnil : ∀ c, c < B → q c = [] → (pv_F w w2 ch ph c).1 = [] := fun c hc hqc => by
      have h9 := (c5 c hc).2.1 0 (by omega)
      rw [hqc] at h9
      show (ph c).map (pv_P w) = []
      rw [List.map_eq_nil_iff.mp h9.symm]
      rfl
    rcases s2 with ⟨s2, s3, c, V1, V2, s4, s5, s6, s7, s8⟩ | ⟨s2, s3⟩
    · have hsc := hegsc c s4 s5
      refine ⟨cs, s1, pu_pmr_25 cs _ _ _ s6, fun s hs => pa_sq_mono s8 (pa_pmr_q cs _ V1 V2 s6 (fun y hy => ?_) (by omega) s hs), Or.inr ⟨c, V1, V2, hsc, fun c' h' => ?_, s6, by omega, fun z hz => ?_, fun u hu => ?_⟩⟩
      · obtain ⟨z, hz, rfl⟩ := List.mem_map.mp (List.mem_filter.mp hy).1
        obtain ⟨⟨u, u1, u2⟩, u', u3, u4⟩ := pa_ml_Lm hfl hp hsc hz
        exact ⟨⟨u, by omega, u2⟩, u', by omega, u4⟩
      · exact hcph.2.2.2.2.1 p c' c hp (hsceg c' h').1 s4 s3 (hsceg c' h').2 s5
      · obtain ⟨⟨u, u1, u2⟩, u', u3, u4⟩ := pa_ml_Lm hfl hp hsc hz
        rw [u2, u4, pu_nn (by omega), pu_nn (by omega)]
        exact ⟨by omega, by omega⟩
      · obtain ⟨k, k1, k2⟩ := pa_av_Lm hfl hp (List.append_nil _).symm hu
        rw [k2, pu_nn (by omega)]
        omega
    · subst s3
      refine ⟨[], s1, fun s hs => (by cases hs), fun s hs => (by cases hs), Or.inl ⟨rfl, fun c hsc => ?_⟩⟩
      obtain ⟨hc, he⟩ := hsceg c hsc
      rcases hcph.2.2.2.1 p c hp hc he with h | h
      · exfalso
        have h9 := (j8 p hp h).mpr ⟨c, hc, he, Or.inl hc⟩
        omega
      · exact hqnil c hc (hcph.2.2.1 p c hp hc h he)
  have hcpd : pu_cpd (pv_F w w2 ch ph) (pg_F fw5 x5 q5) (fun b => b < B) D := by
    refine pa_cpd hS (fun b c hb h23 hsc => ?_) fun b hb => ?_
    · have hc : c < B := hS.2.1.1 b c hb hsc
      have h9 := hnf.1 b c hb hc h23 (hsu b c hb hsc)
      show (ph c).map (pv_P w) = []
      rw [h9]
      rfl
    · obtain ⟨cs, t1, _, _, t4⟩ := hcs b hb
      exact ⟨rfl, hG2 b hb, cs, t1, t4⟩
  have hsq : ∀ b, b < B → ∀ a, a ∈ q5 b → pa_sq fs na V 0 (pv_S x5 a) := fun b hb a ha => by
    obtain ⟨cs, t1, _, t3, _⟩ := hcs b hb
    have h9 : pv_S x5 a ∈ (pg_F fw5 x5 q5 b).2.1 := List.mem_map_of_mem ha
    rw [t1] at h9
    rcases List.mem_append.mp h9 with h | h
    · exact pa_sq_mono j2a (pa_sq_F hfl hb h)
    · exact t3 _ h
  have hok5 := pa_ok_cp hS hcpd fun b hb s hs => by
    obtain ⟨a, ha, rfl⟩ := List.mem_map.mp hs
    exact (hsq b hb a ha).1
  have hfl5 : pg_fl B N5 V fw5 x5 m5 q5 := by
    obtain ⟨R5, r1, r2, r3⟩ := j3b
    refine ⟨⟨by rw [j6 0 (by decide) (by decide) (by decide) (by decide)]; exact a1, hB0, hB⟩, ⟨⟨by rw [r1.1]; exact r2, by rw [r1.2.1]; exact r2, by rw [r1.2.2.1]; exact r2, by rw [r1.2.2.2.1]; exact r2, by rw [r1.2.2.2.2]; exact r2⟩, by omega, by omega⟩, j4, j4a, fun b hb a ha => ?_, fun b hb => ?_⟩
    · obtain ⟨h1, ⟨h2, h3, h4, h5⟩, _⟩ := hsq b hb a ha
      exact ⟨h1, h4, h5, h2, h3⟩
    · obtain ⟨d8, d9, d10, d11⟩ := hF8 b hb
      rw [d8, d9, d10, d11]
      obtain ⟨g1, g2, g3, g4, g5, g6⟩ := hend b hb
      have hsB : ∀ c, pu_sc (pv_F w w2 ch ph) b c → c < B := fun c h => hS.2.1.1 b c hb h
      refine ⟨g3, hnf.2.2 b hb, fun h => ?_, fun h => ⟨⟨nn (w 10 b), hsB _ ⟨fun h9 => ?_, Or.inl rfl⟩, pu_of (g4 h).1⟩, (g4 h).2⟩, fun h => ⟨⟨nn (w 10 b), hsB _ ⟨fun h9 => ?_, Or.inl rfl⟩, pu_of (g5 h).1⟩, nn (w 11 b), hsB _ ⟨fun h9 => ?_, Or.inr ⟨h, rfl⟩⟩, pu_of (g5 h).2⟩, g6⟩
      · obtain ⟨u, u1, u2⟩ := pa_av_Lm hfl hb (List.append_nil _).symm (hS.2.2.2.2.2.2.1 b hb h)
        exact ⟨u, by omega, u2⟩
      · have h9 : w 8 b = 24 := h9
        rw [h] at h9
        exact absurd h9 (by decide)
      · have h9 : w 8 b = 24 := h9
        rw [h] at h9
        exact absurd h9 (by decide)
      · have h9 : w 8 b = 24 := h9
        rw [h] at h9
        exact absurd h9 (by decide)
  have has : pa_as (pv_F w w2 ch ph) B N5 V V fw5 x5 m5 q5 := by
    refine ⟨hfl5, pg_gs_0, fun b hb a ha => (hsq b hb a ha).2.2.2.2.1, fun b hb => pu_rch_dom hd hG2 (b + 1) b (Nat.lt_succ_self b) hb, _, hok5, fun b v9 hb hv => ?_⟩
    obtain ⟨u, u1, u2⟩ := pa_av_Lm hfl hb (l1 := []) (l2 := (pv_F w w2 ch ph b).2.1) rfl hv
    exact ⟨u, by omega, u2⟩
  have hmF : pa_mF V (pg_F fw5 x5 q5) B ≤ 650 + 2 * N5 + 60 := by
    have h9 := pa_mF_cp (H := V) (F := pv_F w w2 ch ph) (G := pg_F fw5 x5 q5) (fun b hb => by
      obtain ⟨cs, t1, t2, _⟩ := hcs b hb
      exact ⟨cs, t1, t2⟩) B (Nat.le_refl B)
    have e8 : (fun b => (pv_F w w2 ch ph b).2.1.length) = fun b => (ch b).length := funext fun b => List.length_map _
    have e9 : (fun b => (pg_F fw5 x5 q5 b).2.1.length) = fun b => (q5 b).length := funext fun b => List.length_map _
    rw [e8, e9, ← pv_sl_sm, ← pv_sl_sm] at h9
    have := pv_sl_le j4a
    omega
  refine ⟨V, R, m, aw1, fw5, x5, m5, q5, N5, ?_, ⟨has, fun b hb a ha => ⟨(hsq b hb a ha).2.2.1, (hsq b hb a ha).2.2.2.1, (hsq b hb a ha).2.2.2.2.2.1, (hsq b hb a ha).2.2.2.2.2.2⟩, ⟨j3a, j3b⟩, ⟨?_, ?_, ?_, ?_⟩, ⟨by omega, by omega⟩, Nat.le_refl V, ?_, ha, hcap⟩, by omega, ⟨b1, b3⟩, fun r r0 r15 r16 => ?_, fun j q8 q9 q10 q11 => ?_⟩
  · unfold fX0_makeFunction
    rw [e1, Option.bind_some]
    unfold fX0_makeFunction_G8_18
    simp only [lt9]
    show (fX0_makeFunction_L21 (v, m, x, m1) NF 0 (upw aw 0 8 (v 0 1)) v x m1).bind _ = _
    rw [← hw19, show fX0_makeFunction_L21 (v, m, x, m1) NF 0 w19 v x m1 = some (w5, fw5, x5, m5) from f1, Option.bind_some]
    unfold fX0_makeFunction_G81_41
    simp only [lt9]
    rw [← haw1]
  · rw [haw1n 0 7 (by decide), j5a 7 (by decide), hw19n 0 7 (by decide)]
    exact h7
  · rw [haw1n 0 8 (by decide)]
    exact j2
  · rw [haw1, pv_upw, if_neg (by decide), pv_upw, if_neg (by decide), pv_upw, if_pos ⟨rfl, rfl⟩]
    exact j2
  · rw [haw1, pv_upw, if_neg (by decide), pv_upw, if_pos ⟨rfl, rfl⟩]
    rfl
  · rw [Nat.zero_add]
    have := pv_sm_le (f := fun v => pa_b1 (pa_gvn B x5 q5 v)) (c := 1) (fun v => pa_b1_le _) V
    unfold pa_gn
    omega
  · funext z
    rw [haw1n r z (by omega), j5 r r0 r15 r16, hw19n r z (by omega)]
  · rw [haw1n 0 j (by omega), j5a j q8, hw19n 0 j (by omega)]
end BGW
