/-! pure side, the machine 4: a text, run -/
def pm_pg (P : ST) (fs : Nat) (a0 a1 Vn : Nat → Nat) (A : Nat → Nat → Nat → Prop) (np rk tk : Nat → Nat) : Prop :=
  fs ≤ 6 ∧ ∀ f, f < fs → pt_fn P f (a0 f) (a1 f) (Vn f) fs (A f) ∧ P 4 f = pu_I (np f) ∧ np f ≤ 4 ∧ rk (a0 f) ≤ 90 ∧
    (∀ i, a0 f ≤ i → i < a1 f → (P 11 i = pu_I (tk i) ∧ tk i ≤ 1000) ∧ ((pt_T P (a0 f) i).length ≤ 60 ∧ (P 9 i = 24 → (pt_T P (a0 f) i).length = 1)) ∧ (P 9 i ≤ 21 ∨ P 9 i = 22 ∨ P 9 i = 24 ∨ 30 ≤ P 9 i) ∧ (P 9 i = 21 → nn (P 10 i) < np f) ∧
      (P 9 i ≠ 22 → P 9 i ≠ 24 → P 9 i ≠ 20 → 1 + rk (i + 1) ≤ 199 * tk i + rk i) ∧ (∀ s, (P 9 i = 22 ∨ P 9 i = 33 ∨ P 9 i = 34) → pt_lab P (a0 f) (a1 f) i s → 1 + rk s ≤ 199 * tk i + rk i) ∧
      (P 9 i = 20 → ∀ g, g < fs → P 10 i = pu_I g → 1 + rk (a0 g) + rk (i + 1) ≤ 199 * tk i + rk i) ∧ (P 9 i = 24 → 1 ≤ 199 * tk i + rk i))
/-- the run ends: with an outcome that is not 0, or with a value -/
def pm_TA (P : ST) (fs d : Nat) (f c base i : Nat) (st : List Int32) (cl : Nat → Int32) (m : pu_M) (ar : List Int32) (j K : Nat) (w' : ST) : Prop :=
  w' 0 8 = 0 ∧ j ≤ K + 1 ∧ (w' 0 0 = 2 ∨ ∃ (o : Int32) (m' : pu_M), (o = 1 ∨ o = 3) ∧ w' 0 0 = o ∧ w' 0 1 = 0 ∧ (∀ z, z < 16 → w' 4 z = m' z) ∧ ∃ N, ∀ n k, N ≤ n → N ≤ k → px_run P (px_callT P fs n d) ar k i st cl m = some (o, 0, m'))
def pm_TB (P : ST) (fs d : Nat) (f c base i : Nat) (st : List Int32) (cl : Nat → Int32) (m : pu_M) (ar : List Int32) (R j K : Nat) (w' : ST) : Prop :=
  ∃ (x : Int32) (m' : pu_M) (t' : Nat), t' ≤ 5000 ∧ j + 199 * (5000 - t') ≤ K ∧ (∀ z, z < 16 → w' 4 z = m' z) ∧ w' 0 2 = pu_I t' ∧ (∃ N, ∀ n k, N ≤ n → N ≤ k → px_run P (px_callT P fs n d) ar k i st cl m = some (0, x, m')) ∧
    ((c = 0 ∧ w' 0 8 = 0 ∧ w' 0 0 = 0 ∧ w' 0 1 = x) ∨ (c ≠ 0 ∧ w' 0 8 = 1 ∧ w' 0 9 = pu_I c ∧ w' 0 19 = pu_I (base + 1) ∧ w' 19 base = x ∧ w' 0 1 = 0 ∧ w' 0 17 = pu_I R))
section TZ
variable {P : ST} {n17 : Nat → Nat} {fs : Nat} {a0 a1 Vn : Nat → Nat} {A : Nat → Nat → Nat → Prop} {np rk tk : Nat → Nat} {R : Nat}
theorem px_run_s {call : pu_Call} {ar : List Int32} {i : Nat} {st : List Int32} {cl : Nat → Int32} {m : pu_M} {o : px_O} (k : Nat) (h : px_step P call ar i st cl m = some o) : px_run P call ar (k + 1) i st cl m = Sum.elim some (fun x => px_run P call ar k x.1 x.2.1 x.2.2.1 x.2.2.2) o := by
  show ((px_step P call ar i st cl m).bind _) = _
  rw [h]
  rfl
theorem pm_text (hpg : pm_pg P fs a0 a1 Vn A np rk tk) (hn17 : 8 * R ≤ n17 17) (hn17' : n17 17 < 1000000) :
    ∀ (K d c f base i : Nat) (st : List Int32) (cl : Nat → Int32) (m : pu_M) (ar : List Int32) (t : Nat) (w : ST), c + d = 7 → pm_TX w f c base i st cl m ar t R → f < fs → a0 f ≤ i → i < a1 f → st.length = (pt_T P (a0 f) i).length → base ≤ c * 60 → ar.length = np f → t ≤ 5000 → 199 * (5000 - t) + rk i ≤ K →
      ∃ j w', pm_go (fun w => fX3_moveInText n17 w P) j w w' ∧ pm_fr c base R w w' ∧ (pm_TA P fs d f c base i st cl m ar j (199 * (5000 - t) + rk i) w' ∨ pm_TB P fs d f c base i st cl m ar R j (199 * (5000 - t) + rk i) w') := by
  intro K
  induction K using Nat.strongRecOn with
  | _ K ih =>
    intro d c f base i st cl m ar t w hcd hTX hf hi0 hi1 hlen hbase har ht hK
    obtain ⟨hfs, hall⟩ := id hpg
    obtain ⟨hfn, hnp, hnp4, _, hops⟩ := hall f hf
    obtain ⟨⟨_, _, _, _, ha3, hVn⟩, htx, hla, _, hLa, _, hQc, hcp⟩ := id hfn
    obtain ⟨hkd, hen, hvarT, _, hTc, hL, hlast⟩ := id htx
    obtain ⟨⟨htk, htk1⟩, ⟨hTL, hT24⟩, hk2, hpar, hR2, hR3, hR4, hR5⟩ := hops i hi0 hi1
    have hrun8 : ¬ w 0 8 = 0 := by rw [hTX.1.1]; decide
    have hc8 : c < 8 := by omega
    have hbase' : base + 60 < 512 := by omega
    by_cases hle : t + tk i ≤ 5000
    · have hmv := pm_text_mv (n17 := n17) hTX hc8 (by omega) htk (by omega)
      rw [if_pos hle] at hmv
      obtain ⟨g1, q1⟩ := pm_tat hTX (i + 1)
      obtain ⟨g2, q2⟩ := pm_ttick g1 (t + tk i)
      have q3 := pm_fr_tr q1 q2
      have hnl : P 9 i ≠ 24 → i + 1 < a1 f := fun h => by
        have : i ≠ a1 f - 1 := fun e => h (by rw [e]; exact hlast.2)
        omega
      by_cases h24 : P 9 i = 24
      · -- a return
        rw [if_neg (by rw [h24]; decide), if_neg (by rw [h24]; decide)] at hmv
        have h1 : st.length = 1 := by rw [hlen]; exact hT24 h24
        match st, hTX, g2, hlen, h1, hmv with
        | [x], hTX, g2, hlen, h1, hmv =>
          obtain ⟨w5, e1, g3, q4⟩ := pm_tpop g2 (by show base + 0 < 512; omega)
          have hcl := pm_close g3.1.2.1 hc8 x
          have hq := pm_fr_tr q3 q4
          have hpx : ∀ (call : pu_Call) k, px_run P call ar (k + 1) i [x] cl m = some (0, x, m) := fun call k => by
            have hs : px_step P call ar i [x] cl m = some (.inl (0, x, m)) := by
              unfold px_step
              rw [if_neg (show ¬ pu_isop (P 9 i) = true by rw [h24]; decide), if_neg (show ¬ P 9 i = 0 by rw [h24]; decide), if_neg (show ¬ P 9 i = 17 by rw [h24]; decide), if_neg (show ¬ P 9 i = 18 by rw [h24]; decide), if_neg (show ¬ P 9 i = 20 by rw [h24]; decide), if_neg (show ¬ P 9 i = 21 by rw [h24]; decide), if_neg (show ¬ P 9 i = 22 by rw [h24]; decide), if_pos h24]
            rw [px_run_s k hs]
            rfl
          have hpx' : ∃ N, ∀ n k, N ≤ n → N ≤ k → px_run P (px_callT P fs n d) ar k i [x] cl m = some (0, x, m) := ⟨1, fun n k _ hk => by
            obtain ⟨k', rfl⟩ : ∃ k', k = k' + 1 := ⟨k - 1, by omega⟩
            exact hpx _ k'⟩
          have hwd : fX3_moveWord n17 (upw (upw w 12 c (pu_I (i + 1))) 0 2 (pu_I (t + tk i))) (pu_I c) (P 9 i) (P 10 i) P = (fX3_close w5 x).bind fun (o_25 : Int32 × ST) => (if (o_25.1) = 0 then some (o_25.2) else (fX3_push (o_25.2) x).bind fun (o_28 : ST) => some o_28) := by
            unfold fX3_moveWord fX3_moveWord_J156
            rw [if_neg (show ¬ P 9 i = 0 by rw [h24]; decide), if_neg (show ¬ P 9 i = 17 by rw [h24]; decide), if_neg (show ¬ P 9 i = 18 by rw [h24]; decide), if_neg (show ¬ P 9 i = 20 by rw [h24]; decide), if_neg (show ¬ P 9 i = 21 by rw [h24]; decide), if_pos h24, e1, Option.bind_some]
          rw [hwd] at hmv
          have h5 := hR5 h24
          by_cases hc0 : c = 0
          · rw [if_pos hc0] at hcl
            rw [hcl, Option.bind_some] at hmv
            have hmv : fX3_moveInText n17 w P = some (upw (upw (upw (upw w5 0 9 0) 0 0 0) 0 8 0) 0 1 x) := hmv
            have er : ∀ r, r ≠ 0 → upw (upw (upw (upw w5 0 9 0) 0 0 0) 0 8 0) 0 1 x r = w5 r := fun r hr => by rw [pv_upw_n hr, pv_upw_n hr, pv_upw_n hr, pv_upw_n hr]
            have e0 : ∀ y, y ≠ 1 → y ≠ 8 → y ≠ 0 → y ≠ 9 → upw (upw (upw (upw w5 0 9 0) 0 0 0) 0 8 0) 0 1 x 0 y = w5 0 y := fun y y1 y8 y0 y9 => by
              rw [pv_upw, if_neg fun h => y1 h.2, pv_upw, if_neg fun h => y8 h.2, pv_upw, if_neg fun h => y0 h.2, pv_upw, if_neg fun h => y9 h.2]
            refine ⟨1, _, pm_go_1 hrun8 hmv, ?_, Or.inr ⟨x, m, t + tk i, hle, by omega, fun z hz => ?_, ?_, hpx', Or.inl ⟨hc0, ?_, ?_, ?_⟩⟩⟩
            · refine pm_fr_tr hq ⟨fun r hr j hj => by rw [er r (by rcases hr with h | h | h | h <;> rw [h] <;> decide)], fun z hz => by rw [er 15 (by decide)], fun z hz => by rw [er 16 (by decide)], fun z hz => by rw [er 17 (by decide)], fun z hz => by rw [er 19 (by decide)], e0 17 (by decide) (by decide) (by decide) (by decide), er 8 (by decide)⟩
            · rw [er 4 (by decide)]; exact g3.2.2.2.1 z hz
            · rw [e0 2 (by decide) (by decide) (by decide) (by decide)]; exact g3.1.2.2.2.2.2.1
            · rw [pv_upw, if_neg fun h => absurd h.2 (by decide), pv_upw, if_pos ⟨rfl, rfl⟩]
            · rw [pv_upw, if_neg fun h => absurd h.2 (by decide), pv_upw, if_neg fun h => absurd h.2 (by decide), pv_upw, if_pos ⟨rfl, rfl⟩]
            · rw [pv_upw, if_pos ⟨rfl, rfl⟩]
          · rw [if_neg hc0] at hcl
            rw [hcl, Option.bind_some] at hmv
            have h19 : upw w5 0 9 (pu_I c) 0 19 = pu_I base := by
              rw [pv_upw, if_neg fun h => absurd h.2 (by decide)]
              exact g3.1.2.2.2.2.1
            have hps := pm_push h19 (by omega) x
            have hmv : fX3_moveInText n17 w P = some (upw (upw (upw w5 0 9 (pu_I c)) 19 base x) 0 19 (pu_I (base + 1))) := by
              rw [hmv]
              show (if (1 : Int32) = 0 then _ else ((fX3_push (upw w5 0 9 (pu_I c)) x).bind fun o => some o)) = _
              rw [if_neg (by decide), hps]
              rfl
            have er : ∀ r, r ≠ 0 → r ≠ 19 → upw (upw (upw w5 0 9 (pu_I c)) 19 base x) 0 19 (pu_I (base + 1)) r = w5 r := fun r hr r19 => by rw [pv_upw_n hr, pv_upw_n r19, pv_upw_n hr]
            have e0 : ∀ y, y ≠ 19 → y ≠ 9 → upw (upw (upw w5 0 9 (pu_I c)) 19 base x) 0 19 (pu_I (base + 1)) 0 y = w5 0 y := fun y y19 y9 => by
              rw [pv_upw, if_neg fun h => y19 h.2, pv_upw_n (by decide), pv_upw, if_neg fun h => y9 h.2]
            refine ⟨1, _, pm_go_1 hrun8 hmv, ?_, Or.inr ⟨x, m, t + tk i, hle, by omega, fun z hz => ?_, ?_, hpx', Or.inr ⟨hc0, ?_, ?_, ?_, ?_, ?_, ?_⟩⟩⟩
            · refine pm_fr_tr hq ⟨fun r hr j hj => by rw [er r (by rcases hr with h | h | h | h <;> rw [h] <;> decide) (by rcases hr with h | h | h | h <;> rw [h] <;> decide)], fun z hz => by rw [er 15 (by decide) (by decide)], fun z hz => by rw [er 16 (by decide) (by decide)], fun z hz => by rw [er 17 (by decide) (by decide)], fun z hz => ?_, e0 17 (by decide) (by decide), er 8 (by decide) (by decide)⟩
              rw [pv_upw_n (by decide), pv_upw, if_neg fun h => by omega, pv_upw_n (by decide)]
            · rw [er 4 (by decide) (by decide)]; exact g3.2.2.2.1 z hz
            · rw [e0 2 (by decide) (by decide)]; exact g3.1.2.2.2.2.2.1
            · rw [e0 8 (by decide) (by decide)]; exact g3.1.1
            · rw [pv_upw, if_neg fun h => absurd h.2 (by decide), pv_upw_n (by decide), pv_upw, if_pos ⟨rfl, rfl⟩]
            · rw [pv_upw, if_pos ⟨rfl, rfl⟩]
            · rw [pv_upw_n (by decide), pv_upw, if_pos ⟨rfl, rfl⟩]
            · rw [e0 1 (by decide) (by decide)]; exact g3.1.2.2.2.2.2.2.2
            · rw [e0 17 (by decide) (by decide)]; exact g3.1.2.2.2.2.2.2.1
      · by_cases h20 : P 9 i = 20
        · -- a call
          rw [if_neg (by rw [h20]; decide), if_neg (by rw [h20]; decide)] at hmv
          have hgx := (hcp i hi0 hi1).1 h20
          obtain ⟨hgn, hg⟩ := pv_ixn hgx
          obtain ⟨g, hgdef⟩ : ∃ g, g = nn (P 10 i) := ⟨_, rfl⟩
          have hgI : P 10 i = pu_I g := by rw [hgdef]; exact pu_of hgn
          have hgfs : g < fs := by rw [hgdef]; exact hg
          obtain ⟨hfn', hnp', hnp4', _, _⟩ := hall g hgfs
          obtain ⟨⟨_, _, hg6, _, hga3, _⟩, htx', _⟩ := id hfn'
          have hga : a0 g < a1 g := htx'.2.2.2.2.2.2.1
          have hnn : px_n P i = np g := by
            show nn (P 4 (nn (P 10 i))) = np g
            rw [← hgdef, hnp', pu_nn (by omega)]
          have hpop : np g ≤ st.length := by
            have h9 := (hen i hi0 hi1).1
            unfold pt_pop at h9
            rw [if_neg (by rw [h20]; decide), if_neg (by rw [h20]; decide), if_neg (by rw [h20]; decide), if_neg (by rw [h20]; decide), if_pos h20] at h9
            have h9 : px_n P i ≤ _ := h9
            rw [hnn, ← hlen] at h9
            exact h9
          have hwd : fX3_moveWord n17 (upw (upw w 12 c (pu_I (i + 1))) 0 2 (pu_I (t + tk i))) (pu_I c) (P 9 i) (P 10 i) P = fX3_enter n17 (upw (upw w 12 c (pu_I (i + 1))) 0 2 (pu_I (t + tk i))) 0 (pu_I g) P := by
            unfold fX3_moveWord fX3_moveWord_J156
            rw [if_neg (show ¬ P 9 i = 0 by rw [h20]; decide), if_neg (show ¬ P 9 i = 17 by rw [h20]; decide), if_neg (show ¬ P 9 i = 18 by rw [h20]; decide), if_pos h20, hgI]
            exact pm_bs _
          rw [hwd] at hmv
          have hstep : ∀ call : pu_Call, px_step P call ar i st cl m = (call (P 10 i) (st.take (px_n P i)).reverse m).bind fun o => if o.1 = 0 then some (.inr (i + 1, o.2.1 :: st.drop (px_n P i), cl, o.2.2)) else some (.inl o) := fun call => by
            unfold px_step
            rw [if_neg (show ¬ pu_isop (P 9 i) = true by rw [h20]; decide), if_neg (show ¬ P 9 i = 0 by rw [h20]; decide), if_neg (show ¬ P 9 i = 17 by rw [h20]; decide), if_neg (show ¬ P 9 i = 18 by rw [h20]; decide), if_pos h20]
          have hr4 := hR4 h20 g hgfs hgI
          by_cases hc7 : c = 7
          · -- one call too many
            have hd0 : d = 0 := by omega
            have hen8 := pm_enter8 (w := upw (upw w 12 c (pu_I (i + 1))) 0 2 (pu_I (t + tk i))) (P := P) (n17 := n17) (way := 0) (f := pu_I g) (by rw [g2.1.2.1, hc7])
            rw [hen8] at hmv
            refine ⟨1, _, pm_go_1 hrun8 hmv, pm_fr_tr q3 (pm_fr_stop c base R _ 3), Or.inl ⟨?_, by omega, Or.inr ⟨3, m, Or.inr rfl, ?_, ?_, fun z hz => ?_, 1, fun n k hn hk => ?_⟩⟩⟩
            · rw [pv_upw, if_pos ⟨rfl, rfl⟩]
            · rw [pv_upw, if_neg fun h => absurd h.2 (by decide), pv_upw, if_pos ⟨rfl, rfl⟩]
            · rw [pv_upw, if_neg fun h => absurd h.2 (by decide), pv_upw, if_neg fun h => absurd h.2 (by decide)]
              exact g2.1.2.2.2.2.2.2.2
            · rw [pv_upw_n (by decide), pv_upw_n (by decide)]
              exact g2.2.2.2.1 z hz
            · obtain ⟨k', rfl⟩ : ∃ k', k = k' + 1 := ⟨k - 1, by omega⟩
              rw [hd0]
              have hs : px_step P (px_callT P fs n 0) ar i st cl m = some (.inl (3, 0, m)) := by
                rw [hstep]
                show ((some (3, 0, m) : Option pu_Res).bind _) = _
                rw [Option.bind_some, if_neg (show ¬ (3 : Int32) = 0 by decide)]
              rw [px_run_s k' hs]
              rfl
          · obtain ⟨d', rfl⟩ : ∃ d', d = d' + 1 := ⟨d - 1, by omega⟩
            obtain ⟨b', hb'⟩ : ∃ b', b' = base + (st.length - np g) := ⟨_, rfl⟩
            obtain ⟨w6, e1, e2, e3, e4, e5, e6, e7, e8, e9, e10, e11, e12, e13⟩ := pm_enter (w := upw (upw w 12 c (pu_I (i + 1))) 0 2 (pu_I (t + tk i))) (P := P) (n17 := n17) (c := c + 1) (f := g) (p := np g) (q := b') (R := R) (way := 0) (at0 := pu_I (a0 g)) g2.1.2.1 (by omega) (by omega) hnp' hnp4' (by rw [g2.1.2.2.2.2.1, hb']; congr 1; omega) (by omega) g2.1.2.2.2.2.2.2.1 hn17 hn17' (by rw [if_pos rfl]; exact hg6.symm)
            rw [e1] at hmv
            have hsk : ∀ (l : List Int32) (r : Nat → Int32), pm_sk r base l → ∀ k, k < l.length → r (base + (l.length - 1 - k)) = l.getD k 0 := by
              intro l
              induction l with
              | nil => intro r _ k hk; cases hk
              | cons y l ihl =>
                intro r h k hk
                have hk : k < l.length + 1 := hk
                cases k with
                | zero => exact h.1
                | succ k =>
                  have h9 := ihl r h.2 k (by omega)
                  have hl : (y :: l).length = l.length + 1 := rfl
                  rw [show base + ((y :: l).length - 1 - (k + 1)) = base + (l.length - 1 - k) by rw [hl]; omega]
                  exact h9
            have hql : ((st.take (np g)).reverse).length = np g := by rw [List.length_reverse, List.length_take]; omega
            have hTX' : pm_TX w6 g (c + 1) b' (a0 g) [] (fun _ => 0) m ((st.take (np g)).reverse) (t + tk i) R := by
              refine ⟨⟨by rw [e4 8 (by decide) (by decide)]; exact g2.1.1, e2, e8, e5, by rw [e3]; rfl, by rw [e4 2 (by decide) (by decide)]; exact g2.1.2.2.2.2.2.1, by rw [e4 17 (by decide) (by decide)]; exact g2.1.2.2.2.2.2.2.1, by rw [e4 1 (by decide) (by decide)]; exact g2.1.2.2.2.2.2.2.2⟩, trivial, e10, fun z hz => ?_, fun z hz => ?_⟩
              · rw [e13 4 (by decide) (by decide) (by decide) (by decide) (by decide) (by decide) (by decide) (by decide)]
                exact g2.2.2.2.1 z hz
              · rw [hql] at hz
                rw [e9 z hz, hb']
                have h9 := hsk st _ g2.2.1 (np g - 1 - z) (by omega)
                rw [show base + (st.length - np g) + z = base + (st.length - 1 - (np g - 1 - z)) by omega, h9]
                have h8 : ∀ (l : List Int32) z, z < l.length → l.reverse.getD z 0 = l.getD (l.length - 1 - z) 0 := fun l z hz => by
                  rw [List.getD_eq_getElem?_getD, List.getD_eq_getElem?_getD, List.getElem?_reverse hz]
                rw [h8 _ z (by rw [List.length_take]; omega), List.length_take, show min (np g) st.length = np g by omega, List.getD_eq_getElem?_getD, List.getD_eq_getElem?_getD, List.getElem?_take, if_pos (by omega)]
            have hrkg : 199 * (5000 - (t + tk i)) + rk (a0 g) < K := by omega
            obtain ⟨j1, w7, f1, f2, f3⟩ := ih (199 * (5000 - (t + tk i)) + rk (a0 g)) hrkg d' (c + 1) g b' (a0 g) [] (fun _ => 0) m ((st.take (np g)).reverse) (t + tk i) w6 (by omega) hTX' hgfs (Nat.le_refl _) hga (by rw [pt_T_a P (a0 g) (a0 g) (Nat.le_refl _)]; rfl) (by rw [hb']; omega) hql hle (Nat.le_refl _)
            have hgo := pm_go_app 1 j1 w w6 w7 (pm_go_1 hrun8 hmv) f1
            have hfr6 : pm_fr c base R w w7 := pm_fr_tr q3 (pm_fr_le (Nat.le_succ c) (by omega) (pm_fr_tr e12 f2))
            have hcallT : ∀ n, px_callT P fs n (d' + 1) (P 10 i) (st.take (px_n P i)).reverse m = px_run P (px_callT P fs n d') ((st.take (np g)).reverse) n (a0 g) [] (fun _ => 0) m := fun n => by
              show (if ixb (P 10 i) fs = true ∧ ((st.take (px_n P i)).reverse).length = nn (P 4 (nn (P 10 i))) then px_run P (px_callT P fs n d') (st.take (px_n P i)).reverse n (nn (P 6 (nn (P 10 i)))) [] (fun _ => 0) m else none) = _
              rw [hnn, ← hgdef, hnp', pu_nn (by omega), hg6, pu_nn (by omega), if_pos ⟨hgx, hql⟩]
            rcases f3 with ⟨k1, k2, k3⟩ | ⟨x, m', t', k1, k2, k3, k4, ⟨N1, k5⟩, k6⟩
            · refine ⟨1 + j1, w7, hgo, hfr6, Or.inl ⟨k1, by omega, k3.imp id fun ⟨o, m', o1, o2, o3, o4, N1, o5⟩ => ⟨o, m', o1, o2, o3, o4, N1 + 1, fun n k hn hk => ?_⟩⟩⟩
              obtain ⟨k', rfl⟩ : ∃ k', k = k' + 1 := ⟨k - 1, by omega⟩
              have hs : px_step P (px_callT P fs n (d' + 1)) ar i st cl m = some (.inl (o, 0, m')) := by
                rw [hstep, hcallT, o5 n n (by omega) (by omega), Option.bind_some, if_neg (show ¬ o = 0 by rcases o1 with h | h <;> rw [h] <;> decide)]
              rw [px_run_s k' hs]
              rfl
            · rcases k6 with ⟨k6, _⟩ | ⟨_, l1, l2, l3, l4, l5, l6⟩
              · omega
              · have hfr67 := pm_fr_tr e12 f2
                have hTX2 : pm_TX w7 f c base (i + 1) (x :: st.drop (np g)) cl m' ar t' R := by
                  have hdl : (st.drop (np g)).length = st.length - np g := List.length_drop
                  refine ⟨⟨l1, l2, ?_, ?_, ?_, k4, l6, l5⟩, ⟨?_, ?_⟩, fun v hv => ?_, k3, fun z hz => ?_⟩
                  · rw [hfr67.1 12 (by decide) c (by omega)]; exact g2.1.2.2.1
                  · rw [hfr67.1 11 (by decide) c (by omega)]; exact g2.1.2.2.2.1
                  · rw [l3, List.length_cons, hdl, hb']
                    rfl
                  · rw [hdl, ← hb']; exact l4
                  · refine pm_sk_e (r := (upw (upw w 12 c (pu_I (i + 1))) 0 2 (pu_I (t + tk i))) 19) _ (fun z h1 h2 => ?_) (pm_sk_drop (np g) st g2.2.1)
                    rw [hdl] at h2
                    exact hfr67.2.2.2.2.1 z (by omega)
                  · rw [hfr67.2.2.1 _ (by omega)]
                    exact g2.2.2.1 v hv
                  · rw [hfr67.2.1 _ (by omega)]
                    exact g2.2.2.2.2 z hz
                have hlen2 : (x :: st.drop (np g)).length = (pt_T P (a0 f) (i + 1)).length := by
                  have hpp : pt_pop P i = np g := by
                    unfold pt_pop
                    rw [if_neg (by rw [h20]; decide), if_neg (by rw [h20]; decide), if_neg (by rw [h20]; decide), if_neg (by rw [h20]; decide), if_pos h20]
                    exact hnn
                  rw [pt_T_s hi0]
                  unfold pt_nx
                  rw [if_pos (by rw [h20]; decide), hpp, List.length_cons, List.length_cons, List.length_drop, List.length_drop, hlen]
                obtain ⟨j2, w8, r1, r2, r3⟩ := ih (199 * (5000 - t') + rk (i + 1)) (by omega) (d' + 1) c f base (i + 1) (x :: st.drop (np g)) cl m' ar t' w7 hcd hTX2 hf (by omega) (hnl h24) hlen2 hbase har k1 (Nat.le_refl _)
                have hgo2 := pm_go_app _ j2 w w7 w8 hgo r1
                have hpx : ∀ N2 r, (∀ n k, N2 ≤ n → N2 ≤ k → px_run P (px_callT P fs n (d' + 1)) ar k (i + 1) (x :: st.drop (np g)) cl m' = some r) → ∃ N, ∀ n k, N ≤ n → N ≤ k → px_run P (px_callT P fs n (d' + 1)) ar k i st cl m = some r := fun N2 r h => ⟨N1 + N2 + 1, fun n k hn hk => by
                  obtain ⟨k', rfl⟩ : ∃ k', k = k' + 1 := ⟨k - 1, by omega⟩
                  have hs : px_step P (px_callT P fs n (d' + 1)) ar i st cl m = some (.inr (i + 1, x :: st.drop (px_n P i), cl, m')) := by
                    rw [hstep, hcallT, k5 n n (by omega) (by omega), Option.bind_some, if_pos rfl]
                  rw [px_run_s k' hs, hnn]
                  exact h n k' (by omega) (by omega)⟩
                rcases r3 with ⟨z1, z2, z3⟩ | ⟨y, m2, t2, z1, z2, z3, z4, ⟨N2, z5⟩, z6⟩
                · refine ⟨_, w8, hgo2, pm_fr_tr hfr6 r2, Or.inl ⟨z1, by omega, z3.imp id fun ⟨o, m2, o1, o2, o3, o4, N2, o5⟩ => ⟨o, m2, o1, o2, o3, o4, hpx N2 _ o5⟩⟩⟩
                · exact ⟨_, w8, hgo2, pm_fr_tr hfr6 r2, Or.inr ⟨y, m2, t2, z1, by omega, z3, z4, hpx N2 _ z5, z6⟩⟩
        · -- all else
          have hvar : (P 9 i = 30 ∨ P 9 i = 31 ∨ P 9 i = 32 ∨ P 9 i = 21) → ∃ u, u < 320 ∧ P 10 i = pu_I u := fun h => by
            obtain ⟨u, u1, u2⟩ := hvarT i hi0 hi1 h
            exact ⟨u, by omega, u2⟩
          have hlab : (P 9 i = 22 ∨ P 9 i = 33 ∨ P 9 i = 34) → ∃ s, pt_lab P (a0 f) (a1 f) i s ∧ px_L P i = s := fun h => by
            obtain ⟨s, hs⟩ := hL i hi0 hi1 h
            refine ⟨s, hs, ?_⟩
            show nn (P 13 (nn (P 10 i))) = s
            rw [hLa i s hi0 hi1 h hs, pu_nn (by have := hs.2.2.1; omega)]
          have h1 := fun call : pu_Call => pm_tx1 (n17 := n17) (a0 := a0 f) hTX hc8 hi0 (by omega) (hen i hi0 hi1) hlen (by omega) (by omega) htk (by omega) hle (hkd i hi0 hi1) hk2 hvar (fun h => ⟨by rw [har]; exact hpar h, by omega⟩) (fun h => ⟨hla i hi0 hi1 (Or.inr h), by
            obtain ⟨s, hs⟩ := hL i hi0 hi1 h
            exact ⟨s, hLa i s hi0 hi1 h hs, by have := hs.2.2.1; omega⟩⟩) h20 h24 call
          -- the step does not depend on what calls do
          have hind : ∀ call call' : pu_Call, px_step P call ar i st cl m = px_step P call' ar i st cl m := fun call call' => by
            unfold px_step
            rw [if_neg h20, if_neg h20]
          obtain ⟨w6, e1, e2, e3⟩ := h1 (px_callT P fs 0 d)
          rcases e3 with ⟨s1, s2, s3, s4, s5⟩ | ⟨i', st', cl', m', s1, s2, s3, s4⟩
          · refine ⟨1, w6, pm_go_1 hrun8 e1, e2, Or.inl ⟨s2, by omega, Or.inr ⟨1, m, Or.inl rfl, s3, s4, s5, 1, fun n k hn hk => ?_⟩⟩⟩
            obtain ⟨k', rfl⟩ : ∃ k', k = k' + 1 := ⟨k - 1, by omega⟩
            rw [px_run_s k' ((hind _ _).trans s1)]
            rfl
          · have hnext : a0 f ≤ i' ∧ i' < a1 f ∧ st'.length = (pt_T P (a0 f) i').length ∧ 1 + rk i' ≤ 199 * tk i + rk i := by
              rcases s4 with rfl | ⟨hj, rfl⟩
              · refine ⟨by omega, hnl h24, s3, ?_⟩
                by_cases h22 : P 9 i = 22
                · have h9 : px_step P (px_callT P fs 0 d) ar i st cl m = some (.inr (px_L P i, st, cl, m)) := by
                    unfold px_step
                    rw [if_neg (show ¬ pu_isop (P 9 i) = true by rw [h22]; decide), if_neg (show ¬ P 9 i = 0 by rw [h22]; decide), if_neg (show ¬ P 9 i = 17 by rw [h22]; decide), if_neg (show ¬ P 9 i = 18 by rw [h22]; decide), if_neg h20, if_neg (show ¬ P 9 i = 21 by rw [h22]; decide), if_pos h22]
                  rw [h9] at s1
                  injection s1 with s1
                  injection s1 with s1
                  injection s1 with s1 _
                  obtain ⟨s, hs, hLs⟩ := hlab (Or.inl h22)
                  have hR := hR3 s (Or.inl h22) hs
                  rw [← hLs, s1] at hR
                  exact hR
                · exact hR2 h22 h24 h20
              · obtain ⟨s, hs, hLs⟩ := hlab hj
                rw [hLs]
                refine ⟨hs.2.1, hs.2.2.1, ?_, hR3 s hj hs⟩
                rw [s3, hTc i s hi0 hi1 hj hs]
            obtain ⟨n1, n2, n3, n4⟩ := hnext
            obtain ⟨j2, w8, r1, r2, r3⟩ := ih (199 * (5000 - (t + tk i)) + rk i') (by omega) d c f base i' st' cl' m' ar (t + tk i) w6 hcd s2 hf n1 n2 n3 hbase har hle (Nat.le_refl _)
            have hgo2 := pm_go_app 1 j2 w w6 w8 (pm_go_1 hrun8 e1) r1
            have hpx : ∀ N2 r, (∀ n k, N2 ≤ n → N2 ≤ k → px_run P (px_callT P fs n d) ar k i' st' cl' m' = some r) → ∃ N, ∀ n k, N ≤ n → N ≤ k → px_run P (px_callT P fs n d) ar k i st cl m = some r := fun N2 r h => ⟨N2 + 1, fun n k hn hk => by
              obtain ⟨k', rfl⟩ : ∃ k', k = k' + 1 := ⟨k - 1, by omega⟩
              rw [px_run_s k' ((hind _ _).trans s1)]
              exact h n k' (by omega) (by omega)⟩
            rcases r3 with ⟨z1, z2, z3⟩ | ⟨y, m2, t2, z1, z2, z3, z4, ⟨N2, z5⟩, z6⟩
            · refine ⟨_, w8, hgo2, pm_fr_tr e2 r2, Or.inl ⟨z1, by omega, z3.imp id fun ⟨o, m2, o1, o2, o3, o4, N2, o5⟩ => ⟨o, m2, o1, o2, o3, o4, hpx N2 _ o5⟩⟩⟩
            · exact ⟨_, w8, hgo2, pm_fr_tr e2 r2, Or.inr ⟨y, m2, t2, z1, by omega, z3, z4, hpx N2 _ z5, z6⟩⟩
    · -- too many steps
      have hmv := pm_text_mv (n17 := n17) hTX hc8 (by omega) htk (by omega)
      rw [if_neg hle] at hmv
      obtain ⟨g1, q1⟩ := pm_tat hTX (i + 1)
      obtain ⟨g2, q2⟩ := pm_ttick g1 5000
      have q3 := pm_fr_tr (pm_fr_tr q1 q2) (pm_fr_stop c base R _ 2)
      refine ⟨1, _, pm_go_1 hrun8 hmv, q3, Or.inl ⟨?_, by omega, Or.inl ?_⟩⟩
      · rw [pv_upw, if_pos ⟨rfl, rfl⟩]
      · rw [pv_upw, if_neg fun h => absurd h.2 (by decide), pv_upw, if_pos ⟨rfl, rfl⟩]
end TZ
