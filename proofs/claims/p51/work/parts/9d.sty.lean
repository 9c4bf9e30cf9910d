/-! pure side, stores 34: same, whole -/
theorem pu_pg_ssa {F F' : pu_Flow} {B : Nat} {D : Nat → Nat → Prop} (hs : ∀ b, b < B → (F' b).2 = (F b).2) (hp1 : ∀ b, b < B → (F' b).1.map Prod.fst = (F b).1.map Prod.fst)
    (hp2 : ∀ b p, b < B → p < B → pu_sc F p b → ∀ z' ∈ (F' b).1, ∃ z ∈ (F b).1, z.2 p = z'.2 p) (hS : pu_ssa F (fun b => b < B) D) : pu_ssa F' (fun b => b < B) D := by
  have hG := hS.2.1
  have hU := hS.2.2.2.2.1
  have hbl : ∀ b, b < B → pu_bl F' b = pu_bl F b := fun b hb => by unfold pu_bl; rw [hs b hb, hp1 b hb]
  have hsc : ∀ b c, b < B → (pu_sc F' b c ↔ pu_sc F b c) := fun b c hb => by unfold pu_sc; rw [hs b hb]
  have hav : ∀ b a v, b < B → pu_av F D b a v → pu_av F' D b a v := by
    intro b a v hb hv
    rcases hv with h1 | h1 | ⟨d, h1, h2, h3⟩
    · exact Or.inl (by rw [hp1 b hb]; exact h1)
    · exact Or.inr (Or.inl h1)
    · exact Or.inr (Or.inr ⟨d, h1, h2, by rw [hbl d (hG.2.1 b d hb h2).2]; exact h3⟩)
  refine ⟨hS.1, ⟨fun b c hb h => hG.1 b c hb ((hsc b c hb).mp h), hG.2.1, hG.2.2.1, hG.2.2.2.1, fun b c d hb h => hG.2.2.2.2 b c d hb ((hsc b c hb).mp h)⟩, ?_, ?_, ⟨?_, ?_⟩, ?_, ?_, ?_⟩
  · have h := hp1 0 hS.1
    rw [hS.2.2.1] at h
    cases h9 : (F' 0).1 with
    | nil => rfl
    | cons z l => rw [h9] at h; cases h
  · intro b hb s h
    rw [hs b hb] at h
    exact hS.2.2.2.1 b hb s h
  · intro b hb
    rw [hbl b hb]; exact hU.1 b hb
  · intro b c v hb hc h1 h2
    rw [hbl b hb] at h1
    rw [hbl c hc] at h2
    exact hU.2 b c v hb hc h1 h2
  · intro b l1 s l2 hb hl
    rw [hs b hb] at hl
    have h9 := hS.2.2.2.2.2.1 b l1 s l2 hb hl
    exact ⟨fun h8 => hav b _ _ hb (h9.1 h8), fun h8 => hav b _ _ hb (h9.2 h8)⟩
  · intro b hb he
    rw [hs b hb] at he ⊢
    exact hav b _ _ hb (hS.2.2.2.2.2.2.1 b hb he)
  · intro b c p hb h hp
    have h := (hsc b c hb).mp h
    obtain ⟨z, hz, e⟩ := hp2 c b (hG.1 b c hb h) hb h p hp
    rw [hs b hb, ← e]
    exact hav b _ _ hb (hS.2.2.2.2.2.2.2 b c z hb h hz)
section SM
variable {B N M Lm fs na : Nat} {D : Nat → Nat → Prop} {l : SL} {g w w2 : ST} {n n2 : Nat → Nat} {ch ph : Nat → List Nat} {wb dm : Nat → Nat}
theorem pv_p0 (hS : pu_ssa (pv_F w w2 ch ph) (fun b => b < B) D) : ph 0 = [] := by
  have h : (ph 0).map (pv_P w) = [] := hS.2.2.1
  cases h9 : ph 0 with
  | nil => rfl
  | cons a l => rw [h9] at h; cases h
theorem pv_same (hfl : pv_fl n w l n2 w2 B N M Lm fs na D ch ph wb dm) :
    ∃ c g' w' w2' ch' ph', fX5_joinEquals g n w l n2 w2 = some (pu_I c, g', w', w2') ∧ c ≤ 250 ∧ pv_fl n w' l n2 w2' B N M Lm fs na D ch' ph' wb dm ∧ (∀ b, List.Sublist (ph' b) (ph b)) ∧
      (∀ call ar k e m q r, pu_run (pv_F w w2 ch ph) call ar k 0 0 (e, m, q) = some r → pu_run (pv_F w' w2' ch' ph') call ar k 0 0 (e, m, q) = some r) := by
  obtain ⟨⟨hok, hrg, hgk, hw, htk⟩, hend, hsu, hS, hd, hdb, hlp, hdmw, hdm, ⟨hLw, hL, hLp, hLs⟩, hcp, hN0, hno, hnf⟩ := hfl
  obtain ⟨⟨hw0, hB0, hB⟩, ⟨hN2, hN3, hN4, hN5, hN6, hN⟩, ⟨hM19, hM20, hM21, hM⟩, hstc, hdis, hphc, hdp, hix, hix2⟩ := id hok
  have hp0 := pv_p0 hS
  have hG := hS.2.1
  obtain ⟨g1, a1, a2, a3⟩ := pv_findGivers (g := g) hok
  obtain ⟨f1, b1, b2⟩ := pv_fill (n := 250) (f := g1 6) (v := -1) (by decide)
  obtain ⟨f2, c1, c2⟩ := pv_fill (n := 250) (f := (srw g1 6 f1) 7) (v := 0) (by decide)
  -- the tables at the beginning
  have hg0 : ∀ (g0 : ST), g0 = upw (upw (srw (srw g1 6 f1) 7 f2) 0 10 0) 12 0 0 → g0 2 = g1 2 ∧ (∀ v, v < 250 → g0 6 v = -1) ∧ g0 0 10 = 0 ∧ g0 12 0 = 0 := by
    rintro g0 rfl
    refine ⟨?_, fun v hv => ?_, ?_, ?_⟩
    · rw [pv_upw_n (by decide), pv_upw_n (by decide), pv_srw_n (by decide), pv_srw_n (by decide)]
    · rw [pv_upw_n (by decide), pv_upw_n (by decide), pv_srw_n (by decide), pv_srw_s]
      exact b2 v hv
    · rw [pv_upw_n (by decide), pv_upw, if_pos ⟨rfl, rfl⟩]
    · rw [pv_upw, if_pos ⟨rfl, rfl⟩]
  generalize hg9 : upw (upw (srw (srw g1 6 f1) 7 f2) 0 10 0) 12 0 0 = g0 at *
  obtain ⟨q2, q6, q10, q12⟩ := hg0 g0 rfl
  have hneg : (-1 : Int32) < 0 := by decide
  have hsk0 : pv_sk g0 := pv_sk_0 fun v hv => by rw [q6 v hv]; exact hneg
  have hsgx : ∀ u, pv_sgx g0 u = u := by
    intro u
    by_cases hu : ixb u 250 = true
    · rw [pv_sgx_v hu, pv_sg_0 (by rw [q6 _ (pv_ixn hu).2]; exact hneg)]
    · exact pv_sgx_n hu
  have hA0 : ∀ b, b < B → pv_A g0 w w2 ch ph b = pv_F w w2 ch ph b := by
    intro b hb
    refine Prod.ext ?_ (Prod.ext ?_ ?_)
    · show ((ph b).filter (pv_aP g0 w)).map (pv_AP g0 w) = (ph b).map (pv_P w)
      have e1 : (ph b).filter (pv_aP g0 w) = ph b := List.filter_eq_self.mpr fun a ha => by
        unfold pv_aP pv_ab
        rw [q6 _ (pv_ixn (hix b hb a ha)).2]
        simp
      rw [e1]
      refine List.map_congr_left fun a _ => ?_
      show (w 19 a, fun p => pv_sgx g0 (w 21 (a * 60 + p))) = (w 19 a, fun p => w 21 (a * 60 + p))
      have : (fun p => pv_sgx g0 (w 21 (a * 60 + p))) = fun p => w 21 (a * 60 + p) := funext fun p => hsgx _
      rw [this]
    · show ((ch b).filter (pv_aS g0 w2)).map (pv_AS g0 w2) = (ch b).map (pv_S w2)
      have e1 : (ch b).filter (pv_aS g0 w2) = ch b := List.filter_eq_self.mpr fun a ha => by
        unfold pv_aS pv_ab
        rcases hix2 b hb a ha with h | h
        · simp [h]
        · rw [q6 _ (pv_ixn h).2]
          simp
      rw [e1]
      refine List.map_congr_left fun a _ => ?_
      show pu_sbS (pv_sgx g0) (pv_S w2 a) = _
      rw [pu_sbS_cg (h := fun v => v) (fun _ => hsgx _) (fun _ => hsgx _)]
      unfold pu_sbS
      simp
    · show (w 8 b, pv_sgx g0 (w 9 b), w 10 b, w 11 b) = (w 8 b, w 9 b, w 10 b, w 11 b)
      rw [hsgx]
  have hJ0 : pv_Jv B D w ch ph (pv_F w w2 ch ph) g0 w2 := ⟨hsk0, hrg, hgk, pv_giv_2 q2 a2, pv_un_of hS hgk hix, hix2, pu_eqB_ssa hA0 hS, fun call ar k e m q r h => pu_eqB_run hB0 hG.1 hA0 h⟩
  have hst : pv_Jst B N D l w n n2 ch ph wb := ⟨⟨hB0, hB⟩, ⟨hN2, hN3, hN4, hN5, hN6, hN⟩, hdis, hix, hw, htk, fun b c hb hc h => (hdb b c hb hc).mp h⟩
  have hwk : pv_wk B D dm [] [0] := pv_wk_0 (fun x hx => pu_dom_0 hd hB0 hx) hB0
  obtain ⟨g2, w21, d1, d2, d3⟩ := pv_je37 (F0 := pv_F w w2 ch ph) hst hd hsu hp0 hw0 hG hdmw hdm B [] [0] g0 w2 NF (by simp) (by have := pv_NF; omega) hwk ⟨q12, trivial⟩ hok hJ0
    (fun c hc _ => ⟨fun a ha => by rw [q6 _ (pv_ixn (hix c hc a ha)).2]; exact hneg, fun a ha h0 => by rw [q6 _ (pv_ixn ((hix2 c hc a ha).resolve_left h0)).2]; exact hneg⟩)
    ⟨0, q10, by decide, fun i hi => by omega⟩
  have d1 : fX5_joinEquals_L37 n w l n2 NF 1 0 g0 w2 = some (g2, w21) := d1
  obtain ⟨c, g3, e1, e2, e3, e4⟩ := pv_L118 (w := w) (g := g2) hL hLw
  obtain ⟨hsk, hrg2, hgk2, hgiv2, hun2, hix22, hS2, hrun2⟩ := id d2
  have r3 : w21 3 = w2 3 := d3.1 3 (by decide) (by decide) (by decide)
  have r6 : w21 6 = w2 6 := d3.1 6 (by decide) (by decide) (by decide)
  have hok2 := pv_ok_r (n := n) (n2 := n2) (N := N) (M := M) r3 r6 hok
  have e6 : ∀ v, g3 6 v = g2 6 v := fun v => by rw [e3 6 (by decide)]
  have hsk3 : pv_sk g3 := pv_sk_e e6 hsk
  obtain ⟨w3, w22, l1, l2, l3, l4, l5⟩ := pv_leaveOut (m := 250) (f := g3 7) hB hw0 hN6 hN3 hM20 hM19 hN hM hok2.2.2.2.1 hdis hphc hdp hix hix22
  have hsc : ∀ b, List.Sublist ((ch b).filter (pv_ks (g3 7) w21)) (ch b) := fun b => List.filter_sublist
  have hsp : ∀ b, List.Sublist ((ph b).filter (pv_kp (g3 7) w)) (ph b) := fun b => List.filter_sublist
  have s19 : w3 19 = w 19 := l4 19 (by decide) (by decide) (by decide) (by decide) (by decide)
  have s21 : w3 21 = w 21 := l4 21 (by decide) (by decide) (by decide) (by decide) (by decide)
  have s00 : w3 0 = w 0 := l4 0 (by decide) (by decide) (by decide) (by decide) (by decide)
  have s8 : w3 8 = w 8 := l4 8 (by decide) (by decide) (by decide) (by decide) (by decide)
  have s9 : w3 9 = w 9 := l4 9 (by decide) (by decide) (by decide) (by decide) (by decide)
  have s10 : w3 10 = w 10 := l4 10 (by decide) (by decide) (by decide) (by decide) (by decide)
  have s11 : w3 11 = w 11 := l4 11 (by decide) (by decide) (by decide) (by decide) (by decide)
  have s12 : w3 12 = w 12 := l4 12 (by decide) (by decide) (by decide) (by decide) (by decide)
  have s14 : w3 14 = w 14 := l4 14 (by decide) (by decide) (by decide) (by decide) (by decide)
  have s15 : w3 15 = w 15 := l4 15 (by decide) (by decide) (by decide) (by decide) (by decide)
  have t2 : w22 2 = w21 2 := l5 2 (by decide)
  have t3 : w22 3 = w21 3 := l5 3 (by decide)
  have t4 : w22 4 = w21 4 := l5 4 (by decide)
  have t5 : w22 5 = w21 5 := l5 5 (by decide)
  have hok3 : pv_ok n w3 n2 w22 B N M (fun b => (ch b).filter (pv_ks (g3 7) w21)) (fun b => (ph b).filter (pv_kp (g3 7) w)) := by
    refine ⟨⟨by rw [s00]; exact hw0, hB0, hB⟩, ⟨hN2, hN3, hN4, hN5, hN6, hN⟩, ⟨hM19, hM20, hM21, hM⟩, l2, pv_dis_all hdis hsc, l3, pv_dis_all hdp hsp, fun b hb a ha => ?_, fun b hb a ha => ?_⟩
    · rw [s19]; exact hix b hb a ((hsp b).subset ha)
    · rw [t3]; exact hix22 b hb a ((hsc b).subset ha)
  have hrg3 : pv_rg w22 B (fun b => (ch b).filter (pv_ks (g3 7) w21)) := fun b hb a ha => by
    rw [t2, t4, t5]
    exact hrg2 b hb a ((hsc b).subset ha)
  have hw3 : pv_wys B w3 wb := by
    unfold pv_wys
    rw [s10, s11, s14, s15]
    exact hw
  have htk3 : pv_tk B w3 wb (fun b => (ph b).filter (pv_kp (g3 7) w)) := fun b hb a ha => by
    rw [s21, s15]
    exact htk b hb a ((hsp b).subset ha)
  obtain ⟨w4, w23, m1, m2, m3, m4, m5⟩ := pv_useStandIns hsk3 hok3 hrg3 hw3 htk3 (fun b hb => by rw [s9]; exact (hend b hb).1)
  -- the flow in the end
  have hks : ∀ b, b < B → (ch b).filter (pv_ks (g3 7) w21) = (ch b).filter (pv_aS g2 w21) := by
    intro b hb
    refine List.filter_congr fun a ha => ?_
    unfold pv_ks pv_aS pv_ab
    by_cases h0 : w21 3 a < 0
    · simp [h0]
    · have hg := (hgk2 b hb a ha).mpr h0
      have hlt := hLs b hb a ha (by rw [← r3]; exact h0)
      rw [← r3] at hlt
      rw [e4 _ hlt, hg]
      by_cases h6 : g2 6 (nn (w21 3 a)) < 0
      · simp [h0, h6]
      · simp [h0, h6]
  have hkp : ∀ b, b < B → (ph b).filter (pv_kp (g3 7) w) = (ph b).filter (pv_aP g2 w) := by
    intro b hb
    refine List.filter_congr fun a ha => ?_
    unfold pv_kp pv_aP pv_ab
    have h0 := (pv_ixn (hix b hb a ha)).1
    rw [e4 _ (hLp b hb a ha)]
    by_cases h6 : g2 6 (nn (w 19 a)) < 0
    · simp [h0, h6]
    · simp [h0, h6]
  have hsgv : ∀ v, ixb v 250 = true → pv_sg g3 v = pv_sgx g2 v := fun v hv => by rw [pv_sgx_v hv, pv_sg_e e6]
  have u2 : w23 2 = w21 2 := by rw [m5.1 2 (by decide) (by decide), t2]
  have u3 : w23 3 = w21 3 := by rw [m5.1 3 (by decide) (by decide), t3]
  have v8 : w4 8 = w 8 := by rw [m2 8 (by decide) (by decide), s8]
  have v10 : w4 10 = w 10 := by rw [m2 10 (by decide) (by decide), s10]
  have v11 : w4 11 = w 11 := by rw [m2 11 (by decide) (by decide), s11]
  have v12 : w4 12 = w 12 := by rw [m2 12 (by decide) (by decide), s12]
  have v14 : w4 14 = w 14 := by rw [m2 14 (by decide) (by decide), s14]
  have v15 : w4 15 = w 15 := by rw [m2 15 (by decide) (by decide), s15]
  have v19 : w4 19 = w 19 := by rw [m2 19 (by decide) (by decide), s19]
  have v00 : w4 0 = w 0 := by rw [m2 0 (by decide) (by decide), s00]
  have hev : ∀ b, b < B → w4 9 b = pv_sgx g2 (w 9 b) := by
    intro b hb
    rw [m4 b hb]
    unfold pv_fe
    rw [s9]
    by_cases h0 : w 9 b < 0
    · rw [if_pos h0, pv_sgx_n fun c => (pv_ixn c).1 h0]
    · rw [if_neg h0]
      exact hsgv _ ((hend b hb).1 h0)
  have hrow : ∀ b, b < B → ∀ a ∈ (ch b).filter (pv_ks (g3 7) w21), w23 4 a = (if pu_ul (w21 2 a) = true then pv_sgx g2 (w21 4 a) else w21 4 a) ∧ w23 5 a = (if pu_ur (w21 2 a) = true then pv_sgx g2 (w21 5 a) else w21 5 a) := by
    intro b hb a ha
    have h5 := (m5.2 a).1 ⟨b, hb, ha⟩
    have h6 := hrg2 b hb a ((hsc b).subset ha)
    unfold pv_f4 pv_f5 at h5
    rw [t2, t4, t5] at h5
    rw [h5.1, h5.2]
    constructor
    · by_cases c9 : pu_ul (w21 2 a) = true
      · rw [if_pos c9, if_pos c9, hsgv _ (h6.1 c9)]
      · rw [if_neg c9, if_neg c9]
    · by_cases c9 : pu_ur (w21 2 a) = true
      · rw [if_pos c9, if_pos c9, hsgv _ (h6.2 c9)]
      · rw [if_neg c9, if_neg c9]
  have hF2 : ∀ b, b < B → (pv_F w4 w23 (fun b => (ch b).filter (pv_ks (g3 7) w21)) (fun b => (ph b).filter (pv_kp (g3 7) w)) b).2 = (pv_A g2 w w21 ch ph b).2 := by
    intro b hb
    show (((ch b).filter (pv_ks (g3 7) w21)).map (pv_S w23), (w4 8 b, w4 9 b, w4 10 b, w4 11 b)) = (((ch b).filter (pv_aS g2 w21)).map (pv_AS g2 w21), (w 8 b, pv_sgx g2 (w 9 b), w 10 b, w 11 b))
    rw [v8, v10, v11, hev b hb, ← hks b hb]
    have : ((ch b).filter (pv_ks (g3 7) w21)).map (pv_S w23) = ((ch b).filter (pv_ks (g3 7) w21)).map (pv_AS g2 w21) := by
      refine List.map_congr_left fun a ha => ?_
      have h9 := hrow b hb a ha
      show (w23 2 a, w23 3 a, w23 4 a, w23 5 a) = (w21 2 a, w21 3 a, (if pu_ul (w21 2 a) = true then pv_sgx g2 (w21 4 a) else w21 4 a), (if pu_ur (w21 2 a) = true then pv_sgx g2 (w21 5 a) else w21 5 a))
      rw [u2, u3, h9.1, h9.2]
    rw [this]
  have htake : ∀ b p, b < B → p < B → pu_sc (pv_F w w2 ch ph) p b → ∀ a ∈ (ph b).filter (pv_kp (g3 7) w), w4 21 (a * 60 + p) = pv_sgx g2 (w 21 (a * 60 + p)) ∧ ixb (w 21 (a * 60 + p)) 250 = true := by
    intro b p hb hp hs a ha
    obtain ⟨j, j1, j2, j3⟩ := hw.2.2.2.2.1 b p hb hp (hsu p b hp hs)
    have hpn : nn (w 15 j) = p := by rw [j3, pu_nn (by omega)]
    have hx := htk b hb a ((hsp b).subset ha) j j1 j2
    have h5 := (m3 (a * 60 + nn (w 15 j))).1 ⟨b, hb, a, ha, j, j1, j2, by rw [s15]⟩
    rw [hpn, s21] at h5
    rw [hpn] at hx
    exact ⟨by rw [h5]; exact hsgv _ hx, hx⟩
  have hp1 : ∀ b, b < B → (pv_F w4 w23 (fun b => (ch b).filter (pv_ks (g3 7) w21)) (fun b => (ph b).filter (pv_kp (g3 7) w)) b).1.map Prod.fst = (pv_A g2 w w21 ch ph b).1.map Prod.fst := by
    intro b hb
    show (((ph b).filter (pv_kp (g3 7) w)).map (pv_P w4)).map Prod.fst = (((ph b).filter (pv_aP g2 w)).map (pv_AP g2 w)).map Prod.fst
    rw [List.map_map, List.map_map, hkp b hb]
    refine List.map_congr_left fun a _ => ?_
    show w4 19 a = w 19 a
    rw [v19]
  have hSF : pu_ssa (pv_F w4 w23 (fun b => (ch b).filter (pv_ks (g3 7) w21)) (fun b => (ph b).filter (pv_kp (g3 7) w))) (fun b => b < B) D := by
    refine pu_pg_ssa hF2 hp1 ?_ hS2
    intro b p hb hp hs z' hz'
    obtain ⟨a, ha, rfl⟩ := List.mem_map.mp hz'
    have h9 := htake b p hb hp hs a ha
    refine ⟨pv_AP g2 w a, List.mem_map_of_mem (by rw [← hkp b hb]; exact ha), ?_⟩
    show pv_sgx g2 (w 21 (a * 60 + p)) = w4 21 (a * 60 + p)
    exact h9.1.symm
  refine ⟨c, g3, w4, w23, _, _, ?_, e2, ⟨⟨?_, ?_, ?_, ?_, ?_⟩, ?_, ?_, hSF, ?_, hdb, ?_, ?_, hdm, ⟨?_, hL, ?_, ?_⟩, ?_, ?_, ?_, ?_⟩, hsp, ?_⟩
  · unfold fX5_joinEquals
    rw [a1, Option.bind_some, b1, Option.bind_some, c1, Option.bind_some]
    simp only [lt9]
    have hz : nn (0 : Int32) = 0 := rfl
    rw [hz, hg9, d1, Option.bind_some, e1, Option.bind_some, l1, Option.bind_some, m1, Option.bind_some]
  · -- the shape of the stores
    refine ⟨⟨by rw [v00]; exact hw0, hB0, hB⟩, ⟨hN2, hN3, hN4, hN5, hN6, hN⟩, ⟨hM19, hM20, hM21, hM⟩, ?_, pv_dis_all hdis hsc, ?_, pv_dis_all hdp hsp, fun b hb a ha => ?_, fun b hb a ha => ?_⟩
    · unfold pv_stc
      rw [m2 4 (by decide) (by decide), m2 5 (by decide) (by decide), m5.1 6 (by decide) (by decide)]
      exact l2
    · unfold pv_phc
      rw [m2 6 (by decide) (by decide), m2 7 (by decide) (by decide), m2 20 (by decide) (by decide)]
      exact l3
    · rw [v19]; exact hix b hb a ((hsp b).subset ha)
    · rw [u3]; exact hix22 b hb a ((hsc b).subset ha)
  · intro b hb a ha
    have h9 := hrow b hb a ha
    have h8 := hrg2 b hb a ((hsc b).subset ha)
    rw [u2, h9.1, h9.2]
    refine ⟨fun c9 => ?_, fun c9 => ?_⟩
    · rw [if_pos c9, pv_sgx_v (h8.1 c9)]
      exact (pv_sg_root hsk (h8.1 c9)).1
    · rw [if_pos c9, pv_sgx_v (h8.2 c9)]
      exact (pv_sg_root hsk (h8.2 c9)).1
  · intro b hb a ha
    rw [u2, u3]
    exact hgk2 b hb a ((hsc b).subset ha)
  · unfold pv_wys
    rw [v10, v11, v14, v15]
    exact hw
  · intro b hb a ha j j1 j2
    have hx := htk b hb a ((hsp b).subset ha) j j1 j2
    have h5 := (m3 (a * 60 + nn (w 15 j))).1 ⟨b, hb, a, ha, j, j1, j2, by rw [s15]⟩
    rw [v15, h5, s21]
    exact (pv_sg_root hsk3 hx).1
  · intro b hb
    have h9 := hend b hb
    rw [hev b hb, v8, v10, v11]
    refine ⟨fun h0 => ?_, fun h8 => ?_, h9.2.2.1, h9.2.2.2⟩
    · by_cases hv : ixb (w 9 b) 250 = true
      · rw [pv_sgx_v hv]; exact (pv_sg_root hsk hv).1
      · rw [pv_sgx_n hv] at h0
        exact absurd (h9.1 h0) hv
    · have hv := h9.1 (h9.2.1 h8)
      rw [pv_sgx_v hv]
      exact (pv_ixn (pv_sg_root hsk hv).1).1
  · intro b c hb hs
    rw [v10, v11]
    refine hsu b c hb ?_
    have hs : (w4 8 b ≠ 24 ∧ (c = nn (w4 10 b) ∨ (w4 8 b = 23 ∧ c = nn (w4 11 b)))) := hs
    rw [v8, v10, v11] at hs
    exact hs
  · exact pv_dom_eq (w := w) (w2 := w2) (c := ch) (p := ph) v8 v10 v11 hd
  · intro h hh h0
    exact pv_lop_eq (w := w) (w2 := w2) (c := ch) (p := ph) v8 v10 v11 (hlp h hh h0)
  · intro c hc hc0
    rw [v12]
    exact hdmw c hc hc0
  · rw [v00]; exact hLw
  · intro b hb a ha
    rw [v19]
    exact hLp b hb a ((hsp b).subset ha)
  · intro b hb a ha h0
    rw [u3, r3] at h0 ⊢
    exact hLs b hb a ((hsc b).subset ha) h0
  · intro b hb a ha
    have hm := (hsc b).subset ha
    have h9 := (hrow b hb a ha).1
    have h8 := hcp b hb a hm
    rw [u2, h9]
    refine ⟨fun h => ?_, fun h => ?_, fun h => ?_⟩
    · have h7 := d3.2 a (Or.inl h)
      rw [h, if_neg (by decide), h7.2]
      exact h8.1 (by rw [← h7.1]; exact h)
    · have h7 := d3.2 a (Or.inr h)
      rw [h, if_neg (by decide), h7.2]
      exact h8.2.1 (by rw [← h7.1]; exact h)
    · rw [u3, r3] at h ⊢
      exact h8.2.2 h
  · refine ⟨?_, hN0.2⟩
    rw [m5.1 0 (by decide) (by decide), l5 0 (by decide), d3.1 0 (by decide) (by decide) (by decide)]
    exact hN0.1
  · intro p hp h
    have h : (w4 8 p ≠ 24 ∧ (0 = nn (w4 10 p) ∨ (w4 8 p = 23 ∧ 0 = nn (w4 11 p)))) := h
    rw [v8, v10, v11] at h
    exact hno p hp h
  · refine ⟨fun b c hb hc h23 he => ?_, fun b hb => Nat.le_trans (List.length_filter_le _ _) (hnf.2.1 b hb), fun b hb h22 => ?_⟩
    rotate_left
    · rw [v8] at h22
      have h9 := hnf.2.2 b hb h22
      rw [hev b hb, pv_sgx_n fun c => (pv_ixn c).1 h9]
      exact h9
    rw [v8] at h23
    rw [v10, v11] at he
    show (ph c).filter (pv_kp (g3 7) w) = []
    rw [hnf.1 b c hb hc h23 he]
    rfl
  · intro call ar k e m q r h
    refine pu_pg_run (F := pv_A g2 w w21 ch ph) (L := fun b => b < B) hB0 hS2.2.1.1 (fun e => ?_) hF2 (fun b p e hb hp hs => ?_) (hrun2 call ar k e m q r h)
    · show pu_phs (((ph 0).filter (pv_kp (g3 7) w)).map (pv_P w4)) 0 e = pu_phs (((ph 0).filter (pv_aP g2 w)).map (pv_AP g2 w)) 0 e
      rw [hp0]
      rfl
    · show pu_phs (((ph b).filter (pv_kp (g3 7) w)).map (pv_P w4)) p e = pu_phs (((ph b).filter (pv_aP g2 w)).map (pv_AP g2 w)) p e
      rw [← hkp b hb]
      refine pu_phs_cg _ fun a ha => ?_
      exact ⟨by show w4 19 a = w 19 a; rw [v19], (htake b p hb hp hs a ha).1⟩
end SM
