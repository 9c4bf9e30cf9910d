/-! pure side, the machine 11: blocks, run; from their start -/
section SC
variable {P : ST} {fs : Nat} {np : Nat → Nat} {Ns N2 : Nat → Nat → Nat} {W W2 : Nat → ST} {L : Nat → SL} {B N M Lm : Nat → Nat} {D : Nat → Nat → Nat → Prop} {ch ph : Nat → Nat → List Nat} {wb dm : Nat → Nat → Nat} {n17 : Nat → Nat} {R : Nat}
theorem pm_blk0 (hcl : pm_cl P fs np Ns N2 W W2 L B N M Lm D ch ph wb dm) (hn17 : 8 * R ≤ n17 17) (hn17' : n17 17 < 1000000) {n d : Nat} (hd : ∀ d', d = d' + 1 → pm_SB n17 Ns N2 W W2 P R fs np B ch ph n d') : pm_SB n17 Ns N2 W W2 P R fs np B ch ph n d := by
  intro k
  induction k with
  | zero => intro c f b p p9 e m ar t w r _ _ _ _ _ _ _ _ hr _; cases hr
  | succ k ih =>
    intro c f b p p9 e m ar t w r hcd hBX hf hb har ht hp hpn hr h9
    obtain ⟨hfs, hall⟩ := id hcl
    obtain ⟨hfl, hnp, hnp4⟩ := hall f hf
    obtain ⟨⟨⟨⟨_, _, hB⟩, _, _, hst, hdis, _⟩, _⟩, hend, hsc2, hS, _⟩ := id hfl
    have hc8 : c < 8 := by omega
    have hf6 : f < 6 := by omega
    have hrun8 : ¬ w 0 8 = 0 := by rw [hBX.1.1]; decide
    obtain ⟨F, hF⟩ : ∃ F : pu_Flow, F = pm_Fs W W2 ch ph f := ⟨_, rfl⟩
    have hphs : pu_phs (F b).1 p e = pu_phs (F b).1 (nn p9) e := by
      rcases hpn with h | h
      · rw [hF]
        show pu_phs ((ph f b).map (pv_P (W f))) p e = pu_phs ((ph f b).map (pv_P (W f))) (nn p9) e
        rw [h]
        rfl
      · rw [h]
    rw [← hF] at hr
    have hr : (pu_blk F (pu_callG fs np (pm_Fs W W2 ch ph) n d) ar b p (e, m, [])).bind (fun o => Sum.elim some (fun x => if x.2.2.2 = [] then pu_run F (pu_callG fs np (pm_Fs W W2 ch ph) n d) ar k x.1 b x.2 else none) o) = some r := hr
    obtain ⟨ob, hob, hob2⟩ := Option.bind_eq_some_iff.mp hr
    have hob : (pu_steps (pu_callG fs np (pm_Fs W W2 ch ph) n d) ar (F b).2.1 (pu_phs (F b).1 p e, m, [])).bind (fun o => Sum.elim (fun r => some (.inl r)) (fun τ => some (pu_end (F b).2.2 τ)) o) = some ob := hob
    obtain ⟨os, hos, hos2⟩ := Option.bind_eq_some_iff.mp hob
    rw [hphs] at hos
    have hmv := pm_mvE (n17 := n17) (Ns := Ns) (N2 := N2) (W := W) (W2 := W2) (P := P) hBX hc8 hf6
    obtain ⟨w1, e1, e2, e3⟩ := pm_enB hfl hb hc8 hBX ht hp
    rw [e1] at hmv
    have hgo1 := pm_go_1 (mv := fun w => fX3_moveInBlocks n17 w Ns W N2 W2 P) hrun8 hmv
    rcases e3 with ⟨s8, s0⟩ | ⟨hle, hBX1⟩
    · exact ⟨1, w1, hgo1, e2, Or.inl ⟨s8, by omega, Or.inl s0⟩⟩
    have hosF : pu_steps (pu_callG fs np (pm_Fs W W2 ch ph) n d) ar ((ch f b).map (pv_S (W2 f))) (pu_phs (pv_F (W f) (W2 f) (ch f) (ph f) b).1 (nn p9) e, m, []) = some os := by
      rw [hF] at hos
      exact hos
    have hos9 : ∀ r', os = .inl r' → r'.1 ≠ 9 := fun r' h => by
      rw [h] at hos2
      have h8 : (some (.inl r') : Option (Sum pu_Res (Nat × pu_S))) = some ob := hos2
      rw [← Option.some.inj h8] at hob2
      have h7 : (some r' : Option pu_Res) = some r := hob2
      rw [Option.some.inj h7]
      exact h9
    obtain ⟨j2, w2, g1, g2, g3⟩ := pm_steps hcl hn17 hn17' hd hcd hf hb har (ch f b) [] (W f 4 b) _ m [] (t + (ph f b).length) w1 os rfl (hst.1 b hb) hBX1 hle hosF hos9
    have hgo2 := pm_go_app 1 j2 w w1 w2 hgo1 g1
    have hfr2 := pm_fr_tr e2 g2
    rcases g3 with ⟨s8, sj, s0⟩ | ⟨e', m', q', t', ho', hBX2, ht', hj'⟩
    · refine ⟨1 + j2, w2, hgo2, hfr2, Or.inl ⟨s8, by omega, s0.imp id fun ⟨r', z1, z2, z3, z4, z5⟩ => ?_⟩⟩
      rw [z1] at hos2
      have h8 : (some (.inl r') : Option (Sum pu_Res (Nat × pu_S))) = some ob := hos2
      rw [← Option.some.inj h8] at hob2
      have h7 : (some r' : Option pu_Res) = some r := hob2
      rw [← Option.some.inj h7]
      exact ⟨Or.inl z2, z3, z4, z5⟩
    subst ho'
    have hos2 : (some (pu_end (F b).2.2 (e', m', q')) : Option (Sum pu_Res (Nat × pu_S))) = some ob := hos2
    have hob3 := Option.some.inj hos2
    have hrun2 : ¬ w2 0 8 = 0 := by rw [hBX2.1.1]; decide
    rcases pm_btk hBX2 ht' with ⟨hle2, htick⟩ | ⟨hle2, w3, htick, s8, s0, sfr⟩
    · obtain ⟨g4, q4⟩ := pm_btick hBX2 (t' + 1)
      have hmv2 := pm_mvX (n17 := n17) (Ns := Ns) (N2 := N2) (W := W) (W2 := W2) (P := P) hBX2 hc8 hf6 htick
      obtain ⟨h9i, h9n, hk3, hk4⟩ := hend b hb
      obtain ⟨y, y1, y2⟩ := pm_ed0 (W := W) (N2 := N2) (W2 := W2) g4 hc8 (by omega) h9i
      rw [y2] at hmv2
      have hFe : (F b).2.2 = (W f 8 b, W f 9 b, W f 10 b, W f 11 b) := by rw [hF]; rfl
      by_cases h24 : W f 8 b = 24
      · -- a return
        have hv0 := h9n (Or.inr h24)
        have hob4 : ob = .inl (pu_rq q', e' (W f 9 b), m') := by
          rw [← hob3, hFe]
          unfold pu_end
          exact if_pos h24
        rw [hob4] at hob2
        have h7 : (some (pu_rq q', e' (W f 9 b), m') : Option pu_Res) = some r := hob2
        have h6 := Option.some.inj h7
        have hq' : q' = [] := Classical.byContradiction fun hq => h9 (by
          rw [← h6]
          show pu_rq q' = 9
          unfold pu_rq
          exact if_neg hq)
        subst hq'
        have hr1 : r = (0, y, m') := by
          rw [← h6, y1 hv0]
          rfl
        subst hr1
        rcases pm_edR (W := W) (N2 := N2) (W2 := W2) g4 hc8 (by omega) (y := y) h24 with ⟨hc0, hed⟩ | ⟨c', hc', hed⟩
        · rw [hed] at hmv2
          have er : ∀ r, r ≠ 0 → upw (upw (upw (upw (upw w2 0 2 (pu_I (t' + 1))) 0 9 0) 0 0 0) 0 8 0) 0 1 y r = w2 r := fun r hr => by rw [pv_upw_n hr, pv_upw_n hr, pv_upw_n hr, pv_upw_n hr, pv_upw_n hr]
          refine ⟨1 + j2 + 1, _, pm_go_app _ 1 w w2 _ hgo2 (pm_go_1 hrun2 hmv2), pm_fr_tr hfr2 ⟨fun r hr j hj => by rw [er r (by rcases hr with h | h | h | h <;> rw [h] <;> decide)], fun z hz => by rw [er 15 (by decide)], fun z hz => by rw [er 16 (by decide)], fun z hz => by rw [er 17 (by decide)], fun z hz => absurd hz (Nat.not_lt_zero z), ?_, er 8 (by decide)⟩, Or.inl ⟨?_, by omega, Or.inr ⟨Or.inr hc0, ?_, ?_, fun z hz => ?_⟩⟩⟩
          · rw [pv_upw, if_neg fun h => absurd h.2 (by decide), pv_upw, if_neg fun h => absurd h.2 (by decide), pv_upw, if_neg fun h => absurd h.2 (by decide), pv_upw, if_neg fun h => absurd h.2 (by decide), pv_upw, if_neg fun h => absurd h.2 (by decide)]
          · rw [pv_upw, if_neg fun h => absurd h.2 (by decide), pv_upw, if_pos ⟨rfl, rfl⟩]
          · rw [pv_upw, if_neg fun h => absurd h.2 (by decide), pv_upw, if_neg fun h => absurd h.2 (by decide), pv_upw, if_pos ⟨rfl, rfl⟩]
          · rw [pv_upw, if_pos ⟨rfl, rfl⟩]
          · rw [er 4 (by decide)]; exact hBX2.2.2.2.1 z hz
        · have er : ∀ r, r ≠ 0 → upw (upw w2 0 2 (pu_I (t' + 1))) 0 9 (pu_I c) r = w2 r := fun r hr => by rw [pv_upw_n hr, pv_upw_n hr]
          have e0 : ∀ y, y ≠ 2 → y ≠ 9 → upw (upw w2 0 2 (pu_I (t' + 1))) 0 9 (pu_I c) 0 y = w2 0 y := fun y y2 y9 => by rw [pv_upw, if_neg fun h => y9 h.2, pv_upw, if_neg fun h => y2 h.2]
          have hfr9 : pm_fr c 0 R w2 (upw (upw w2 0 2 (pu_I (t' + 1))) 0 9 (pu_I c)) := ⟨fun r hr j hj => by rw [er r (by rcases hr with h | h | h | h <;> rw [h] <;> decide)], fun z hz => by rw [er 15 (by decide)], fun z hz => by rw [er 16 (by decide)], fun z hz => by rw [er 17 (by decide)], fun z hz => absurd hz (Nat.not_lt_zero z), e0 17 (by decide) (by decide), er 8 (by decide)⟩
          refine ⟨1 + j2, w2, hgo2, hfr2, Or.inr ⟨rfl, hrun2, c', _, t' + 1, hc', hle2, by omega, pm_fr_tr hfr2 hfr9, ⟨by rw [e0 8 (by decide) (by decide)]; exact hBX2.1.1, by rw [pv_upw, if_pos ⟨rfl, rfl⟩], ?_, ?_, by rw [e0 17 (by decide) (by decide)]; exact hBX2.1.2.2.2.2.2.2.2.2.1, by rw [e0 1 (by decide) (by decide)]; exact hBX2.1.2.2.2.2.2.2.2.2.2⟩, fun z hz => by rw [er 4 (by decide)]; exact hBX2.2.2.2.1 z hz, fun g hg h11 => ?_⟩⟩
          · rw [e0 19 (by decide) (by decide)]; exact hBX2.1.2.2.2.2.2.2.1
          · rw [pv_upw, if_neg fun h => absurd h.2 (by decide), pv_upw, if_pos ⟨rfl, rfl⟩]
          · rw [hmv2]
            refine hed g hg ?_
            rw [pv_upw_n (show (11 : Nat) ≠ 0 by decide), hfr2.1 11 (Or.inl rfl) c' (by omega)]
            exact h11
      · -- on to another block
        obtain ⟨c1, hc1, hob4⟩ : ∃ c1, (if W f 8 b = 23 ∧ y = 0 then W f 11 b else W f 10 b) = pu_I c1 ∧ ob = .inr (c1, (e', m', q')) := by
          rw [← hob3, hFe]
          unfold pu_end
          rw [if_neg h24]
          by_cases h23 : W f 8 b = 23
          · have hv0 := h9n (Or.inl h23)
            obtain ⟨p10, p11⟩ := hk4.2.1 h23
            rw [y1 hv0]
            by_cases hy : e' (W f 9 b) = 0
            · exact ⟨nn (W f 11 b), by rw [if_pos ⟨h23, hy⟩]; exact pu_of p11, if_pos ⟨h23, hy⟩⟩
            · exact ⟨nn (W f 10 b), by rw [if_neg fun h => hy h.2]; exact pu_of p10, if_neg fun h => hy h.2⟩
          · have h22 : W f 8 b = 22 := by
              rcases hk3 with h | h | h
              · exact h
              · exact absurd h h23
              · exact absurd h h24
            exact ⟨nn (W f 10 b), by rw [if_neg fun h => h23 h.1]; exact pu_of (hk4.1 h22).1, if_neg fun h => h23 h.1⟩
        rw [hob4] at hob2
        have hob2 : (if q' = [] then pu_run F (pu_callG fs np (pm_Fs W W2 ch ph) n d) ar k c1 b (e', m', q') else none) = some r := hob2
        by_cases hq' : q' = []
        · rw [if_pos hq'] at hob2
          subst hq'
          obtain ⟨w3, r1, r2, r3⟩ := pm_edB (W := W) (N2 := N2) (W2 := W2) g4 hc8 (by omega) h24 hc1
          rw [r1] at hmv2
          have hscb : pu_sc (pv_F (W f) (W2 f) (ch f) (ph f)) b c1 := by
            have h8 : pu_end (pv_F (W f) (W2 f) (ch f) (ph f) b).2.2 (e', m', []) = .inr (c1, (e', m', [])) := by
              rw [← hob4, ← hob3, hF]
              rfl
            exact (pu_end_sc h8).1
          have hc1B := hS.2.1.1 b c1 hb hscb
          have heg : pv_eg (W f) b c1 := hsc2 b c1 hb hscb
          rw [hF] at hob2
          obtain ⟨j4, w4, x1, x2, x3⟩ := ih c f c1 b (pu_I b) e' m' ar (t' + 1) w3 r hcd r3 hf hc1B har hle2 (Or.inr ⟨b, hb, rfl, heg⟩) (Or.inr (pu_nn (by omega)).symm) hob2 h9
          have hgo3 := pm_go_app _ 1 w w2 w3 hgo2 (pm_go_1 (mv := fun w => fX3_moveInBlocks n17 w Ns W N2 W2 P) hrun2 hmv2)
          have hfr3 := pm_fr_tr hfr2 (pm_fr_tr q4 r2)
          refine ⟨_, w4, pm_go_app _ j4 w w3 w4 hgo3 x1, pm_fr_tr hfr3 x2, x3.imp (fun ⟨z1, z2, z3⟩ => ⟨z1, by omega, z3⟩) fun ⟨z1, z2, c', w9, t9, z3, z4, z5, z6, z7, z8, z10⟩ => ⟨z1, z2, c', w9, t9, z3, z4, by omega, pm_fr_tr hfr3 z6, z7, z8, fun g hg h11 => z10 g hg ?_⟩⟩
          rw [hfr3.1 11 (Or.inl rfl) c' (by omega)]
          exact h11
        · rw [if_neg hq'] at hob2; cases hob2
    · have hmv2 := pm_mvT (n17 := n17) (Ns := Ns) (N2 := N2) (W := W) (W2 := W2) (P := P) hBX2 hc8 hf6 (by decide) htick
      exact ⟨1 + j2 + 1, w3, pm_go_app _ 1 w w2 w3 hgo2 (pm_go_1 hrun2 hmv2), pm_fr_tr hfr2 sfr, Or.inl ⟨s8, by omega, Or.inl s0⟩⟩
theorem pm_blocks (hcl : pm_cl P fs np Ns N2 W W2 L B N M Lm D ch ph wb dm) (hn17 : 8 * R ≤ n17 17) (hn17' : n17 17 < 1000000) {n : Nat} : ∀ d, pm_SB n17 Ns N2 W W2 P R fs np B ch ph n d := by
  intro d
  induction d with
  | zero => exact pm_blk0 hcl hn17 hn17' fun d' h => by omega
  | succ d ihd =>
    refine pm_blk0 hcl hn17 hn17' (fun d' h => ?_)
    have : d' = d := by omega
    rw [this]
    exact ihd
/-- blocks, the whole run -/
theorem pm_start1 (hcl : pm_cl P fs np Ns N2 W W2 L B N M Lm D ch ph wb dm) {w LL : ST} {f : Nat} (hf : f < fs) (hn : n17 17 < 1000000) (Cn : Nat → Nat → Nat) (Cw : Nat → ST) {n k : Nat} {r : pu_Res}
    (hr : pu_run (pm_Fs W W2 ch ph f) (pu_callG fs np (pm_Fs W W2 ch ph) n 7) ((List.range (np f)).map (w 8)) k 0 0 (fun _ => 0, fun _ => 0, []) = some r) (h9 : r.1 ≠ 9) :
    ∃ w', fX3_start n17 w 1 (pu_I f) P LL Ns W N2 W2 Cn Cw = some (w', stn n17 17 (n17 17)) ∧ w' 8 = w 8 ∧ (w' 0 0 = 2 ∨ (w' 0 0 = r.1 ∧ w' 0 1 = r.2.1 ∧ ∀ z, z < 16 → w' 4 z = r.2.2 z)) := by
  obtain ⟨hfs, hall⟩ := id hcl
  obtain ⟨hfl, hnp, hnp4⟩ := hall f hf
  have hst : ∀ m : Nat → Nat, stn m 17 (m 17) 17 = m 17 := fun m => by
    unfold stn
    first | rfl | (split <;> rfl)
  have hB0 : 0 < B f := hfl.1.1.1.2.1
  have hph0 : ph f 0 = [] := by
    have h8 : (ph f 0).map (pv_P (W f)) = [] := hfl.2.2.2.1.2.2.1
    exact List.map_eq_nil_iff.mp h8
  obtain ⟨w6, w5, b1, b2, b3, b4, b5, b6, b7, b8, b9, b10, b11, b12, b13, b14, b15, b16, b17, b18, b19⟩ := pm_open (n17 := n17) (P := P) (w := w) (L := LL) (f := f) (p := np f) (way := 1) (at0 := -2) (R := 0) (n1 := stn n17 17 (n17 17)) (by omega) hnp hnp4 (fun w4 _ => by
    obtain ⟨w5, c1, c2, c3, c4⟩ := pm_slots0 (n17 := n17) (P := P) (w := w4) (L := LL) (way := 1) (Or.inr rfl) hn
    exact ⟨w5, _, c1, c2, by omega, by rw [hst]; exact hn, c3, c4, rfl⟩) (by rw [if_neg (by decide), if_pos rfl])
  have har : ((List.range (np f)).map (w 8)).length = np f := by rw [List.length_map, List.length_range]
  have hBX : pm_BX w6 f 0 0 (-1) (-2) (fun _ => 0) (fun _ => 0) [] ((List.range (np f)).map (w 8)) 0 0 := by
    refine ⟨⟨b1, b2, b3, b6, b4, b5, b7, b8, b9, b10⟩, fun z hz _ => absurd hz (Nat.not_lt_zero z), fun v hv => by rw [Nat.zero_mul, Nat.zero_add]; exact b12 v (by omega), b14, fun z hz => ?_⟩
    rw [har] at hz
    rw [Nat.zero_mul, Nat.zero_add, b15 z hz, List.getD_eq_getElem?_getD, List.getElem?_map, List.getElem?_range hz]
    rfl
  obtain ⟨j, w', g1, g2, g3⟩ := pm_blocks hcl (n17 := stn n17 17 (n17 17)) (R := 0) (by omega) b18 (n := n) 7 k 0 f 0 0 (-1) (fun _ => 0) (fun _ => 0) _ 0 w6 r rfl hBX hf hB0 har (by omega) (Or.inl hph0) (Or.inl hph0) hr h9
  rcases g3 with ⟨k1, k2, k3⟩ | ⟨_, _, c', _, _, hc', _⟩
  · have hL := pm_L67 (P := P) (p1 := 1) (Bn := Ns) (Bw := W) (Sn := N2) (Sw := W2) (Cn := Cn) (Cw := Cw) (o5 := (w5, stn n17 17 (n17 17))) (mv := fun w => fX3_moveInBlocks (stn n17 17 (n17 17)) w Ns W N2 W2 P) (fun w => by rw [if_neg (by decide), if_pos rfl]) j NF 0 w6 w' g1 k1 (by omega) (by have := pv_NF; omega)
    exact ⟨w', b19 Ns W N2 W2 Cn Cw w' hL, by rw [g2.2.2.2.2.2.2]; exact b16, k3.imp id fun h => h.2⟩
  · omega
end SC
