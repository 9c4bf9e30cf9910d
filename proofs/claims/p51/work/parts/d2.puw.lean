/-! pure side, the allocator 27: what a flow is stays so when values are put away -/
section PUW
variable {fs na B V N0 H c0 c1 : Nat} {wb fw0 x0 : ST} {n20 : Nat → Nat} {qs : Nat → List Nat} {F0 : pu_Flow}
/-- what slots are -/
def pa_ss (B V H c0 c1 : Nat) (wb x0 : ST) (qs : Nat → List Nat) : Prop :=
  (∀ v, v < V → wb 13 v ≠ -1 → v < H) ∧ (∀ v, v < V → wb 13 v = -2 → ∀ b, b < B → ∀ a, a ∈ qs b → x0 3 a = pu_I v → x0 2 a = 0 ∧ x0 4 a = wb 14 v) ∧
  (∀ v, v < V → wb 13 v ≠ -1 → wb 13 v ≠ -2 → ∃ q, (c0 ≤ q ∧ q < c1) ∧ wb 13 v = pu_I q) ∧ (∀ u v q, u < V → v < V → q < 100000 → wb 13 u = pu_I q → wb 13 v = pu_I q → u = v)
theorem pa_Sb_h (hs : pa_ss B V H c0 c1 wb x0 qs) {x : Int32} (h : pa_Sb wb V x = true) : ∃ h, (h < H ∧ h < V) ∧ x = pu_I h ∧ wb 13 h ≠ -1 := by
  obtain ⟨h1, h2, h3⟩ := of_decide_eq_true h
  exact ⟨nn x, ⟨hs.1 _ h2 h3, h2⟩, pu_of h1, h3⟩
theorem pa_as_put (has : pa_as F0 B N0 V H fw0 x0 n20 qs) (hHV : H ≤ V) (hc1 : c0 ≤ c1) (hc2 : c1 < 100000) (hsk : pa_sk fs na B c0 x0 qs) (hss : pa_ss B V H c0 c1 wb x0 qs) (hbd : V + pa_mF H (pg_F fw0 x0 qs) B < 100000) (hbN : N0 + pa_mF H (pg_F fw0 x0 qs) B < 8496) {s : ST × ST × ST × (Nat → Nat)} (hI : pa_ip B V N0 wb fw0 x0 qs B s) :
    ∃ qs' V' N', pa_as F0 B N' V' H s.2.1 s.2.2.1 s.2.2.2 qs' ∧ pa_sk fs na B c1 s.2.2.1 qs' ∧ (s.2.2.1 0 0 = pu_I N' ∧ ∃ R, pv_sR s.2.2.2 R ∧ N' ≤ R ∧ R ≤ 12770) ∧ (s.1 0 8 = pu_I V' ∧ ∀ r z, ¬ (r = 0 ∧ z = 8) → s.1 r z = wb r z) ∧ V ≤ V' ∧
      V' + pa_mF H (pg_F s.2.1 s.2.2.1 qs') B ≤ V + pa_mF H (pg_F fw0 x0 qs) B ∧ N' + pa_mF H (pg_F s.2.1 s.2.2.1 qs') B ≤ N0 + pa_mF H (pg_F fw0 x0 qs) B ∧ ∀ v, v < V → pa_gvn B s.2.2.1 qs' v = true → wb 13 v = -1 ∧ pa_gvn B x0 qs v = true := by
  obtain ⟨hfl, hgs, hnc, hrc, W, hok, hWH⟩ := has
  obtain ⟨⟨hB0, hBp, hB⟩, ⟨_, hN, hV⟩, hst, hd, hstep, hend⟩ := id hfl
  obtain ⟨w', fw, x9, n2⟩ := s
  obtain ⟨ch, N, hw, ⟨hcN, hRN⟩, hNe, ⟨hst1, hd1⟩, _, hlt, hfr⟩ := hI
  dsimp only at hw hcN hRN hNe hst1 hlt hfr ⊢
  obtain ⟨F, hF⟩ : ∃ F, F = pg_F fw0 x0 qs := ⟨_, rfl⟩
  have hFb : ∀ b, F b = ([], (qs b).map (pv_S x0), (fw0 8 b, fw0 9 b, fw0 10 b, fw0 11 b)) := fun b => by rw [hF]; rfl
  have hS : ∀ x, pa_Sb wb V x = true → pa_hb H x = true := fun x hx => by
    obtain ⟨h, ⟨h1, h2⟩, rfl, _⟩ := pa_Sb_h hss hx
    unfold pa_hb
    rw [pu_nn (by omega)]
    exact decide_eq_true ⟨pu_ge (by omega), h1⟩
  rw [← hF] at hw hNe hlt hbd hbN hok hrc ⊢
  have hcrude := pa_kb3 (S := pa_Sb wb V) (ns := pa_ns wb) (sl := pa_sl wb) (nm := pa_nm wb) (F := F) (V := V) (M := 8500) B fun b hb => by
    rw [hFb]
    show ((qs b).map (pv_S x0)).length ≤ 8500
    rw [List.length_map]
    have := pv_len N0 (qs b) (hd.2.1 b hb) (hd.1 b hb)
    omega
  have hmu := pa_kb_mu (ns := pa_ns wb) (sl := pa_sl wb) (nm := pa_nm wb) (F := F) hS hHV B (by
    have : B * (3 * 8500 + 1) ≤ 60 * (3 * 8500 + 1) := Nat.mul_le_mul_right _ hB
    omega)
  have hmono := fun {i j : Nat} (h : i ≤ j) => pa_kb_mono (S := pa_Sb wb V) (ns := pa_ns wb) (sl := pa_sl wb) (nm := pa_nm wb) (F := F) (V := V) h
  have hle := fun (i : Nat) => pa_kb_le (S := pa_Sb wb V) (ns := pa_ns wb) (sl := pa_sl wb) (nm := pa_nm wb) (F := F) (V := V) (i := i)
  have hkb0 : pa_kb (pa_Sb wb V) (pa_ns wb) (pa_sl wb) (pa_nm wb) F V 0 = V := rfl
  have hksu : ∀ i, pa_kb (pa_Sb wb V) (pa_ns wb) (pa_sl wb) (pa_nm wb) F V (i + 1) = (pu_pa (pa_Sb wb V) (pa_ns wb) (pa_sl wb) (pa_nm wb) (F i).2.1 (pa_kb (pa_Sb wb V) (pa_ns wb) (pa_sl wb) (pa_nm wb) F V i)).2 + (if pa_Sb wb V (F i).2.2.2.1 = true then 1 else 0) := fun i => rfl
  generalize pa_kb (pa_Sb wb V) (pa_ns wb) (pa_sl wb) (pa_nm wb) F V = kb at *
  have hVB : V ≤ kb B := by rw [← hkb0]; exact hmono (Nat.zero_le B)
  have hF' : ∀ b, b < B → pg_F fw x9 ch b = pu_paF (pa_Sb wb V) (pa_ns wb) (pa_sl wb) (pa_nm wb) F kb b := fun b hb => by
    obtain ⟨g1, g2⟩ := hlt b hb
    show (([] : List pu_Phi), (ch b).map (pv_S x9), (fw 8 b, fw 9 b, fw 10 b, fw 11 b)) = _
    have e8 : (F b).2.2.1 = fw0 8 b := by rw [hFb]
    have e10 : (F b).2.2.2.2.1 = fw0 10 b := by rw [hFb]
    have e11 : (F b).2.2.2.2.2 = fw0 11 b := by rw [hFb]
    rw [g1, g2, hfr 8 (by decide) (by decide) (by decide), hfr 10 (by decide) (by decide) (by decide), hfr 11 (by decide) (by decide) (by decide), ← e8, ← e10, ← e11]
    rfl
  have hmF : pa_mF H (pg_F fw x9 ch) B ≤ pa_mF H (pu_paF (pa_Sb wb V) (pa_ns wb) (pa_sl wb) (pa_nm wb) F kb) B := pg_sm_mono B fun b hb => by rw [hF' b hb]; exact Nat.le_refl _
  have hkB : kb B < 100000 := by omega
  have hkb1 : ∀ b, b < B → V ≤ kb b ∧ (pu_pa (pa_Sb wb V) (pa_ns wb) (pa_sl wb) (pa_nm wb) ((qs b).map (pv_S x0)) (kb b)).2 + (if pa_Sb wb V (fw0 9 b) = true then 1 else 0) ≤ kb B := fun b hb => by
    have h1 := hmono (Nat.zero_le b)
    have h2 := hmono (show b + 1 ≤ B by omega)
    have h3 := hksu b
    rw [hFb] at h3
    have h3 : kb (b + 1) = (pu_pa (pa_Sb wb V) (pa_ns wb) (pa_sl wb) (pa_nm wb) ((qs b).map (pv_S x0)) (kb b)).2 + (if pa_Sb wb V (fw0 9 b) = true then 1 else 0) := h3
    rw [hkb0] at h1
    exact ⟨h1, by omega⟩
  have hsq : ∀ b, b < B → ∀ t, t ∈ (qs b).map (pv_S x0) → pa_sq fs na V c0 t := fun b hb t ht => by
    obtain ⟨a, ha, rfl⟩ := List.mem_map.mp ht
    obtain ⟨s1, s2, s3, s4, s5⟩ := hstep b hb a ha
    exact ⟨s1, ⟨s4, s5, s2, s3⟩, (hsk b hb a ha).1, (hsk b hb a ha).2.1, fun h => hnc b hb a ha h, (hsk b hb a ha).2.2.1, (hsk b hb a ha).2.2.2⟩
  have hsl : ∀ x, pa_Sb wb V x = true → pa_ns wb x = false → c0 ≤ nn (pa_sl wb x) ∧ pa_nl c1 (pa_sl wb x) := fun x hx hn => by
    obtain ⟨h, ⟨h1, h2⟩, rfl, h3⟩ := pa_Sb_h hss hx
    unfold pa_ns at hn
    rw [pu_nn (by omega)] at hn
    obtain ⟨q, q1, q2⟩ := hss.2.2.1 h h2 h3 (of_decide_eq_false hn)
    unfold pa_sl
    rw [pu_nn (by omega), q2]
    exact ⟨by rw [pu_nn (by omega)]; exact q1.1, by rw [pu_nn (by omega)]; exact q1.2, pu_ge (by omega)⟩
  have hst' : ∀ b, b < B → (ch b).map (pv_S x9) = (pu_pa (pa_Sb wb V) (pa_ns wb) (pa_sl wb) (pa_nm wb) ((qs b).map (pv_S x0)) (kb b)).1 ++ (if pa_Sb wb V (fw0 9 b) = true then [pu_fe (pa_ns wb) (pa_sl wb) (pa_nm wb) (fw0 9 b) (pu_pa (pa_Sb wb V) (pa_ns wb) (pa_sl wb) (pa_nm wb) ((qs b).map (pv_S x0)) (kb b)).2] else []) := fun b hb => by
    rw [(hlt b hb).1]
    show _ ++ _ = _
    rw [hFb]
  have hen' : ∀ b, b < B → fw 9 b = (if pa_Sb wb V (fw0 9 b) = true then pu_I (pu_pa (pa_Sb wb V) (pa_ns wb) (pa_sl wb) (pa_nm wb) ((qs b).map (pv_S x0)) (kb b)).2 else fw0 9 b) := fun b hb => by
    rw [(hlt b hb).2]
    show (if _ = true then _ else _) = _
    rw [hFb]
  have hsq' : ∀ b, b < B → ∀ a, a ∈ ch b → pa_sq fs na (kb B) c1 (pv_S x9 a) := fun b hb a ha => by
    have h1 : pv_S x9 a ∈ (ch b).map (pv_S x9) := List.mem_map.mpr ⟨a, ha, rfl⟩
    rw [hst' b hb] at h1
    obtain ⟨g1, g2⟩ := hkb1 b hb
    rcases List.mem_append.mp h1 with h1 | h1
    · exact pa_pa_q (fun x h1 h2 => (hsl x h1 h2).2) hc1 (by omega) _ (kb b) g1 (by omega) (hsq b hb) _ h1
    · by_cases c : pa_Sb wb V (fw0 9 b) = true
      · rw [if_pos c] at h1 g2
        rw [List.mem_singleton.mp h1]
        exact pa_fe_q (fun x h1 h2 => (hsl x h1 h2).2) c (by omega)
      · rw [if_neg c] at h1; cases h1
  have hSend : ∀ b, b < B → pa_Sb wb V (fw0 9 b) = true → fw0 8 b = 23 ∨ fw0 8 b = 24 := fun b hb h => by
    rcases (hend b hb).1 with q | q
    · obtain ⟨h', ⟨h1, h2⟩, h3, _⟩ := pa_Sb_h hss h
      have := (hend b hb).2.1 q
      rw [h3] at this
      exact absurd this (pu_ge (by omega))
    · exact q
  obtain ⟨R, hR1, hR2, hR3⟩ := hRN
  have hN2 : N < 8500 := by omega
  refine ⟨ch, kb B, N, ⟨⟨⟨by rw [hfr 0 (by decide) (by decide) (by decide)]; exact hB0, hBp, hB⟩, ⟨⟨by rw [hR1.1]; exact hR2, by rw [hR1.2.1]; exact hR2, by rw [hR1.2.2.1]; exact hR2, by rw [hR1.2.2.2.1]; exact hR2, by rw [hR1.2.2.2.2]; exact hR2⟩, hN2, hkB⟩, hst1, hd1, fun b hb a ha => ?_, fun b hb => ?_⟩, ⟨?_, fun b hb => ?_⟩, fun b hb a ha h => (hsq' b hb a ha).2.2.2.2.1 h, fun b hb => ?_, fun b v => W b v ∧ pa_Sb wb V v = false, ?_, fun b v hb hv => hWH b v hb hv.1⟩, fun b hb a ha => ⟨(hsq' b hb a ha).2.2.1, (hsq' b hb a ha).2.2.2.1, (hsq' b hb a ha).2.2.2.2.2.1, (hsq' b hb a ha).2.2.2.2.2.2⟩, ⟨hcN, R, hR1, hR2, hR3⟩, hw, hVB, by omega, by omega, ?_⟩
  · obtain ⟨t1, ⟨t2, t3, t4, t5⟩, _⟩ := hsq' b hb a ha
    exact ⟨t1, t4, t5, t2, t3⟩
  · obtain ⟨q1, q2, q3, q4⟩ := hend b hb
    rw [hfr 8 (by decide) (by decide) (by decide), hfr 10 (by decide) (by decide) (by decide), hfr 11 (by decide) (by decide) (by decide), hen' b hb]
    refine ⟨q1, fun h => ?_, fun h => ?_, q4⟩
    · rw [if_neg (fun c => by rcases hSend b hb c with e | e <;> rw [e] at h <;> exact absurd h (by decide))]
      exact q2 h
    · obtain ⟨g1, g2⟩ := hkb1 b hb
      by_cases c : pa_Sb wb V (fw0 9 b) = true
      · rw [if_pos c]
        rw [if_pos c] at g2
        exact ⟨_, by omega, rfl⟩
      · rw [if_neg c]
        obtain ⟨u, u1, u2⟩ := q3 h
        exact ⟨u, by omega, u2⟩
  · -- each guest is given once
    have hold := (pg_un_c (V := V) hd).mp hgs.1
    have hcnt : ∀ b, b < B → (∀ u, u < V → pg_c1 u ((ch b).map (pv_S x9)) ≤ pg_c1 u ((qs b).map (pv_S x0))) ∧ (∀ u, V ≤ u → u < 2147483648 → pg_c1 u ((ch b).map (pv_S x9)) ≤ if kb b ≤ u ∧ u < kb (b + 1) then 1 else 0) := fun b hb => by
      obtain ⟨g1, g2⟩ := hkb1 b hb
      have h3 := hksu b
      rw [hFb] at h3
      have h3 : kb (b + 1) = (pu_pa (pa_Sb wb V) (pa_ns wb) (pa_sl wb) (pa_nm wb) ((qs b).map (pv_S x0)) (kb b)).2 + (if pa_Sb wb V (fw0 9 b) = true then 1 else 0) := h3
      have h4 := pu_pa_k (S := pa_Sb wb V) (ns := pa_ns wb) (sl := pa_sl wb) (nm := pa_nm wb) ((qs b).map (pv_S x0)) (kb b)
      obtain ⟨p1, p2, _⟩ := pg_c1_pa (S := pa_Sb wb V) (ns := pa_ns wb) (sl := pa_sl wb) (nm := pa_nm wb) (V := V) (by omega) ((qs b).map (pv_S x0)) (kb b) g1 (by omega) fun t ht => (hsq b hb t ht).2.1.2.2.1
      rw [hst' b hb]
      generalize hK : (pu_pa (pa_Sb wb V) (pa_ns wb) (pa_sl wb) (pa_nm wb) ((qs b).map (pv_S x0)) (kb b)).2 = K at *
      refine ⟨fun u hu => ?_, fun u hu hu2 => ?_⟩
      · rw [pg_c1_app]
        have := p1 u hu
        by_cases c : pa_Sb wb V (fw0 9 b) = true
        · rw [if_pos c, pg_c1_fe (by omega) (by omega), if_neg (by omega)]; omega
        · rw [if_neg c, pg_c1_0]; omega
      · rw [pg_c1_app]
        have := p2 u hu hu2
        by_cases c : pa_Sb wb V (fw0 9 b) = true
        · rw [if_pos c] at h3
          rw [if_pos c, pg_c1_fe hu2 (by omega)]
          by_cases e : u = K
          · rw [if_neg (by omega)] at this
            rw [if_pos e, if_pos (by omega)]; omega
          · rw [if_neg e]
            by_cases e2 : kb b ≤ u ∧ u < K
            · rw [if_pos e2] at this
              rw [if_pos (by omega)]; omega
            · rw [if_neg e2] at this; omega
        · rw [if_neg c] at h3
          rw [if_neg c, pg_c1_0, h3]; exact this
    refine (pg_un_c hd1).mpr fun u u1 u2 => ?_
    by_cases e : u < V
    · obtain ⟨h1, h2⟩ := hold u u1 e
      refine ⟨fun b hb => Nat.le_trans ((hcnt b hb).1 u e) (h1 b hb), fun b c hb hc q1 q2 => h2 b c hb hc ?_ ?_⟩
      · have := (hcnt b hb).1 u e; omega
      · have := (hcnt c hc).1 u e; omega
    · have hz : ∀ b, b < B → pg_c1 u ((ch b).map (pv_S x9)) ≤ 1 ∧ (pg_c1 u ((ch b).map (pv_S x9)) ≠ 0 → kb b ≤ u ∧ u < kb (b + 1)) := fun b hb => by
        have := (hcnt b hb).2 u (by omega) (by omega)
        by_cases e2 : kb b ≤ u ∧ u < kb (b + 1)
        · rw [if_pos e2] at this
          exact ⟨this, fun _ => e2⟩
        · rw [if_neg e2] at this
          exact ⟨by omega, fun h => absurd (Nat.le_zero.mp this) h⟩
      refine ⟨fun b hb => (hz b hb).1, fun b c hb hc q1 q2 => ?_⟩
      obtain ⟨a1, a2⟩ := (hz b hb).2 q1
      obtain ⟨a3, a4⟩ := (hz c hc).2 q2
      rcases Nat.lt_trichotomy b c with h | h | h
      · have := hmono (show b + 1 ≤ c by omega); omega
      · exact h
      · have := hmono (show c + 1 ≤ b by omega); omega
  · rw [hst' b hb]
    obtain ⟨g1, g2⟩ := hkb1 b hb
    refine pg_gd_pa (V := V) (E := pg_E fw0 b) hHV (by omega) (fun x hx => by obtain ⟨h, ⟨h1, _⟩, h2, _⟩ := pa_Sb_h hss hx; exact ⟨h, h1, h2⟩) (fun P hnd hP hE => ?_) ((qs b).map (pv_S x0)) (kb b) [] g1 (by omega) (fun t ht => ?_) List.nodup_nil (fun u hu => by cases hu) (hgs.2 b hb)
    · by_cases c : pa_Sb wb V (fw0 9 b) = true
      · rw [if_pos c] at g2 ⊢
        obtain ⟨h, ⟨h1, h2⟩, h3, _⟩ := pa_Sb_h hss c
        have hP0 : P = [] := pg_nil fun u hu => by
          have h4 := (hE u (hP u hu).1 (hP u hu).2).mpr hu
          have h4 : pu_I u = fw0 9 b := h4.2
          rw [h3] at h4
          have := pu_inj (by have := (hP u hu).2; omega) (by omega) h4
          have := (hP u hu).1
          omega
        rw [hP0]
        have h4 := pu_pa_k (S := pa_Sb wb V) (ns := pa_ns wb) (sl := pa_sl wb) (nm := pa_nm wb) ((qs b).map (pv_S x0)) (kb b)
        refine pg_gd_fe (by omega) (by omega) (by intro h; cases h) (Nat.zero_le _) fun u u1 u2 => ?_
        unfold pg_E
        rw [hfr 8 (by decide) (by decide) (by decide), hen' b hb, if_pos c]
        constructor
        · rintro ⟨_, q⟩
          rw [pu_inj (by omega) (by omega) q]
          exact List.mem_cons_self
        · intro q
          exact ⟨hSend b hb c, by rw [List.mem_singleton.mp q]⟩
      · rw [if_neg c]
        intro u u1 u2
        unfold pg_E
        rw [hfr 8 (by decide) (by decide) (by decide), hen' b hb, if_neg c]
        by_cases e : u < V
        · exact hE u u1 e
        · refine ⟨fun ⟨q1, q2⟩ => ?_, fun q => absurd (hP u q).2 e⟩
          obtain ⟨x, x1, x2⟩ := (hend b hb).2.2.1 q1
          rw [x2] at q2
          have := pu_inj (by omega) (by omega) q2
          omega
    · obtain ⟨t1, ⟨t2, t3, t4, t5⟩, _⟩ := hsq b hb t ht
      refine ⟨t2, t3, t4, fun a1 a2 a3 => ?_⟩
      obtain ⟨a, ha, rfl⟩ := List.mem_map.mp ht
      obtain ⟨h, ⟨h1, h2⟩, h3, _⟩ := pa_Sb_h hss a2
      have a3 : pa_ns wb (x0 3 a) = true := a3
      have h3 : x0 3 a = pu_I h := h3
      rw [h3] at a3
      unfold pa_ns at a3
      rw [pu_nn (by omega)] at a3
      exact (hss.2.1 h h2 (of_decide_eq_true a3) b hb a ha h3).1
  · rw [pu_rch_eq (F := pu_paF (pa_Sb wb V) (pa_ns wb) (pa_sl wb) (pa_nm wb) F kb) hBp hF' (fun b c hb hs => hok.2.1 b c hb hs)]
    exact hrc b hb
  · refine pa_ok_eq (pa_ok_pa (c0 := c0) (k0 := V) (kb := kb) hok (fun b hb t ht => ?_) (fun v h1 h2 => (hsl v h1 h2).1) (fun v w h1 h2 h3 h4 h5 => ?_) (fun b v hb hv => ?_) (fun b hb h => ?_) (fun b hb h => ?_) (fun b hb => ?_)) hF'
    · rw [hFb] at ht
      obtain ⟨t1, ⟨t2, t3, t4, t5⟩, t6, t7, _⟩ := hsq b hb t ht
      have hlt : ∀ x : Int32, (∃ u, u < V ∧ x = pu_I u) → nn x < V := fun x ⟨u, u1, u2⟩ => by rw [u2, pu_nn (by omega)]; exact u1
      refine ⟨t1, fun h => hlt _ (t2 h), fun h => hlt _ (t3 h), fun h => hlt _ (t4 h), fun a1 a2 a3 => ?_, fun q => (t6 q).1, fun q => (t7 q).1⟩
      obtain ⟨a, ha, rfl⟩ := List.mem_map.mp ht
      obtain ⟨h, ⟨h1, h2⟩, h3, _⟩ := pa_Sb_h hss a2
      have a3 : pa_ns wb (x0 3 a) = true := a3
      have h3 : x0 3 a = pu_I h := h3
      rw [h3] at a3
      unfold pa_ns at a3
      rw [pu_nn (by omega)] at a3
      obtain ⟨g1, g2⟩ := hss.2.1 h h2 (of_decide_eq_true a3) b hb a ha h3
      refine ⟨g1, ?_⟩
      show x0 4 a = wb 14 (nn (x0 3 a))
      rw [h3, pu_nn (by omega)]
      exact g2
    · obtain ⟨h, ⟨_, x2⟩, rfl, x3⟩ := pa_Sb_h hss h1
      obtain ⟨g, ⟨_, y2⟩, rfl, y3⟩ := pa_Sb_h hss h3
      unfold pa_ns at h2 h4
      unfold pa_sl at h5
      rw [pu_nn (by omega)] at h2 h4
      rw [pu_nn (show h < 2147483648 by omega), pu_nn (show g < 2147483648 by omega)] at h5
      obtain ⟨q, q1, q2⟩ := hss.2.2.1 h x2 x3 (of_decide_eq_false h2)
      obtain ⟨r, r1, r2⟩ := hss.2.2.1 g y2 y3 (of_decide_eq_false h4)
      rw [q2, r2, pu_nn (by omega), pu_nn (by omega)] at h5
      rw [← h5] at r2
      rw [hss.2.2.2 h g q x2 y2 (by omega) q2 r2]
    · obtain ⟨h, h1, h2⟩ := hWH b v hb hv
      rw [h2, pu_nn (by omega)]
      omega
    · rw [hFb] at h ⊢
      obtain ⟨u, u1, u2⟩ := (hend b hb).2.2.1 h
      show nn (fw0 9 b) < V
      rw [u2, pu_nn (by omega)]
      exact u1
    · rw [hFb] at h ⊢
      exact hSend b hb h
    · rw [hFb]
      obtain ⟨g1, g2⟩ := hkb1 b hb
      refine ⟨g1, ?_⟩
      show (pu_pa (pa_Sb wb V) (pa_ns wb) (pa_sl wb) (pa_nm wb) ((qs b).map (pv_S x0)) (kb b)).2 + 3 < 2147483648
      omega
  · intro v hv h
    obtain ⟨b, a, hb, ha, h3⟩ := pa_gvn_i.mp h
    have hgw : pu_gw (x9 2 a) = true := by
      cases e : pu_gw (x9 2 a) with
      | true => rfl
      | false =>
        have h9 : x9 3 a = -1 := (hsq' b hb a ha).2.1.2.2.2 e
        rw [h3] at h9
        exact absurd h9 (pg_In1 (by omega))
    have hpos : pg_c1 v ((ch b).map (pv_S x9)) ≠ 0 := by
      rw [pg_c1_map]
      have := List.countP_pos_iff (p := fun a => pu_gw (x9 2 a) && decide (x9 3 a = pu_I v)).mpr ⟨a, ha, by rw [hgw, decide_eq_true h3]; rfl⟩
      omega
    obtain ⟨g1, g2⟩ := hkb1 b hb
    have h4 := pu_pa_k (S := pa_Sb wb V) (ns := pa_ns wb) (sl := pa_sl wb) (nm := pa_nm wb) ((qs b).map (pv_S x0)) (kb b)
    obtain ⟨p1, _, p3⟩ := pg_c1_pa (S := pa_Sb wb V) (ns := pa_ns wb) (sl := pa_sl wb) (nm := pa_nm wb) (V := V) (by omega) ((qs b).map (pv_S x0)) (kb b) g1 (by omega) fun t ht => (hsq b hb t ht).2.1.2.2.1
    have htail : pg_c1 v (if pa_Sb wb V (fw0 9 b) = true then [pu_fe (pa_ns wb) (pa_sl wb) (pa_nm wb) (fw0 9 b) (pu_pa (pa_Sb wb V) (pa_ns wb) (pa_sl wb) (pa_nm wb) ((qs b).map (pv_S x0)) (kb b)).2] else []) = 0 := by
      by_cases c : pa_Sb wb V (fw0 9 b) = true
      · rw [if_pos c, pg_c1_fe (by omega) (by omega), if_neg (by omega)]
      · rw [if_neg c, pg_c1_0]
    rw [hst' b hb, pg_c1_app, htail] at hpos
    have h1 := p1 v hv
    constructor
    · refine Classical.byContradiction fun hw9 => ?_
      have := p3 v hv ((pa_Sb_u (by omega) hv).mpr hw9)
      omega
    · have hpos2 : pg_c1 v ((qs b).map (pv_S x0)) ≠ 0 := by omega
      rw [pg_c1_map] at hpos2
      obtain ⟨a0, a1, a2⟩ := List.countP_pos_iff.mp (Nat.pos_of_ne_zero hpos2)
      exact pa_gvn_i.mpr ⟨b, a0, hb, a1, of_decide_eq_true ((Bool.and_eq_true _ _).mp a2).2⟩
end PUW
