/-! pure side, the machine 10: the steps of a block, run -/
def pm_cl (P : ST) (fs : Nat) (np : Nat → Nat) (Ns N2 : Nat → Nat → Nat) (W W2 : Nat → ST) (L : Nat → SL) (B N M Lm : Nat → Nat) (D : Nat → Nat → Nat → Prop) (ch ph : Nat → Nat → List Nat) (wb dm : Nat → Nat → Nat) : Prop :=
  fs ≤ 6 ∧ ∀ f, f < fs → pv_fl (Ns f) (W f) (L f) (N2 f) (W2 f) (B f) (N f) (M f) (Lm f) fs (np f) (D f) (ch f) (ph f) (wb f) (dm f) ∧ P 4 f = pu_I (np f) ∧ np f ≤ 4
/-- the flows of a class -/
def pm_Fs (W W2 : Nat → ST) (ch ph : Nat → Nat → List Nat) : Nat → pu_Flow := fun f => pv_F (W f) (W2 f) (ch f) (ph f)
/-- the run is over -/
def pm_ST (c : Nat) (r : pu_Res) (K j : Nat) (w' : ST) : Prop :=
  w' 0 8 = 0 ∧ j ≤ K + 1 ∧ (w' 0 0 = 2 ∨ ((r.1 ≠ 0 ∨ c = 0) ∧ w' 0 0 = r.1 ∧ w' 0 1 = r.2.1 ∧ ∀ z, z < 16 → w' 4 z = r.2.2 z))
/-- the call is about to give its value back -/
def pm_RT (n17 : Nat → Nat) (Ns N2 : Nat → Nat → Nat) (W W2 : Nat → ST) (P : ST) (R c : Nat) (r : pu_Res) (K j : Nat) (w w' : ST) : Prop :=
  r.1 = 0 ∧ ¬ w' 0 8 = 0 ∧ ∃ c' w9 t', c = c' + 1 ∧ t' ≤ 5000 ∧ j + 1 + 2 * (5000 - t') ≤ K ∧ pm_fr c 0 R w w9 ∧ (w9 0 8 = 1 ∧ w9 0 9 = pu_I c ∧ w9 0 19 = 0 ∧ w9 0 2 = pu_I t' ∧ w9 0 17 = pu_I R ∧ w9 0 1 = 0) ∧ (∀ z, z < 16 → w9 4 z = r.2.2 z) ∧
    ∀ g, g < 6 → w 11 c' = pu_I g → fX3_moveInBlocks n17 w' Ns W N2 W2 P = fX3_giveBack w9 (W g) r.2.1 (N2 g) (W2 g)
/-- blocks, d calls deep at most: as the run says -/
def pm_SB (n17 : Nat → Nat) (Ns N2 : Nat → Nat → Nat) (W W2 : Nat → ST) (P : ST) (R fs : Nat) (np : Nat → Nat) (B : Nat → Nat) (ch ph : Nat → Nat → List Nat) (n d : Nat) : Prop :=
  ∀ (k c f b p : Nat) (p9 : Int32) (e : pu_E) (m : pu_M) (ar : List Int32) (t : Nat) (w : ST) (r : pu_Res), c + d = 7 → pm_BX w f c b p9 (-2) e m [] ar t R → f < fs → b < B f → ar.length = np f → t ≤ 5000 → (ph f b = [] ∨ ∃ p', p' < B f ∧ p9 = pu_I p' ∧ pv_eg (W f) p' b) → (ph f b = [] ∨ p = nn p9) →
    pu_run (pm_Fs W W2 ch ph f) (pu_callG fs np (pm_Fs W W2 ch ph) n d) ar k b p (e, m, []) = some r → r.1 ≠ 9 →
    ∃ j w', pm_go (fun w => fX3_moveInBlocks n17 w Ns W N2 W2 P) j w w' ∧ pm_fr c 0 R w w' ∧ (pm_ST c r (2 * (5000 - t) + 1) j w' ∨ pm_RT n17 Ns N2 W W2 P R c r (2 * (5000 - t) + 1) j w w')
section SB
variable {P : ST} {fs : Nat} {np : Nat → Nat} {Ns N2 : Nat → Nat → Nat} {W W2 : Nat → ST} {L : Nat → SL} {B N M Lm : Nat → Nat} {D : Nat → Nat → Nat → Prop} {ch ph : Nat → Nat → List Nat} {wb dm : Nat → Nat → Nat} {n17 : Nat → Nat} {R : Nat}
theorem pm_steps (hcl : pm_cl P fs np Ns N2 W W2 L B N M Lm D ch ph wb dm) (hn17 : 8 * R ≤ n17 17) (hn17' : n17 17 < 1000000) {n d : Nat} (hd : ∀ d', d = d' + 1 → pm_SB n17 Ns N2 W W2 P R fs np B ch ph n d') {c f b : Nat} {p9 : Int32} {ar : List Int32} (hcd : c + d = 7) (hf : f < fs) (hb : b < B f) (har : ar.length = np f) :
    ∀ (l2 l1 : List Nat) (at0 : Int32) (e : pu_E) (m : pu_M) (q : List Int32) (t : Nat) (w : ST) (o : Sum pu_Res pu_S), ch f b = l1 ++ l2 → pv_ch (W2 f 6) at0 l2 → pm_BX w f c b p9 at0 e m q ar t R → t ≤ 5000 → pu_steps (pu_callG fs np (pm_Fs W W2 ch ph) n d) ar (l2.map (pv_S (W2 f))) (e, m, q) = some o → (∀ r, o = .inl r → r.1 ≠ 9) →
      ∃ j w', pm_go (fun w => fX3_moveInBlocks n17 w Ns W N2 W2 P) j w w' ∧ pm_fr c 0 R w w' ∧
        ((w' 0 8 = 0 ∧ j ≤ 2 * (5000 - t) + 1 ∧ (w' 0 0 = 2 ∨ ∃ r, o = .inl r ∧ r.1 ≠ 0 ∧ w' 0 0 = r.1 ∧ w' 0 1 = r.2.1 ∧ ∀ z, z < 16 → w' 4 z = r.2.2 z)) ∨
         (∃ e' m' q' t', o = .inr (e', m', q') ∧ pm_BX w' f c b p9 (-1) e' m' q' ar t' R ∧ t' ≤ 5000 ∧ j + 2 * (5000 - t') ≤ 2 * (5000 - t))) := by
  obtain ⟨hfs, hall⟩ := id hcl
  obtain ⟨hfl, hnp, hnp4⟩ := hall f hf
  obtain ⟨⟨⟨⟨_, _, hB⟩, ⟨hN2, hN3, hN4, hN5, hN6, hN⟩, _, hst, hdis, _, _, _, hg9⟩, _, hgk, _⟩, _⟩ := id hfl
  have hc8 : c < 8 := by omega
  have hf6 : f < 6 := by omega
  intro l2
  induction l2 with
  | nil =>
    intro l1 at0 e m q t w o hl hx hBX ht ho h9
    have ho : (some (.inr (e, m, q)) : Option (Sum pu_Res pu_S)) = some o := ho
    have hx : at0 = -1 := hx
    subst hx
    exact ⟨0, w, rfl, pm_fr_rf c 0 R w, Or.inr ⟨e, m, q, t, (Option.some.inj ho).symm, hBX, ht, by omega⟩⟩
  | cons a l2 ih =>
    intro l1 at0 e m q t w o hl hx hBX ht ho h9
    obtain ⟨rfl, hx⟩ := hx
    have ha : a ∈ ch f b := by rw [hl]; exact List.mem_append_right _ List.mem_cons_self
    have haN := hdis.1 b hb a ha
    have hrun8 : ¬ w 0 8 = 0 := by rw [hBX.1.1]; decide
    have ho : ((pu_stp (pu_callG fs np (pm_Fs W W2 ch ph) n d) ar (W2 f 2 a) (W2 f 3 a) (W2 f 4 a) (W2 f 5 a) e m q).bind fun o => Sum.elim (fun r => some (.inl r)) (fun τ => pu_steps (pu_callG fs np (pm_Fs W W2 ch ph) n d) ar (l2.map (pv_S (W2 f))) τ) o) = some o := ho
    obtain ⟨o1, ho1, ho2⟩ := Option.bind_eq_some_iff.mp ho
    rcases pm_btk hBX ht with ⟨hle, htick⟩ | ⟨hle, w', htick, s8, s0, sfr⟩
    · obtain ⟨g1, q1⟩ := pm_btick hBX (t + 1)
      obtain ⟨g2, q2⟩ := pm_bat g1 (W2 f 6 a)
      have q3 := pm_fr_tr q1 q2
      have hmv := pm_mvS (n17 := n17) (Ns := Ns) (N2 := N2) (W := W) (W2 := W2) (P := P) hBX hc8 hf6 (by omega) (by omega) htick
      by_cases h20 : W2 f 2 a = 20
      · -- a call
        have hstp : ((pu_callG fs np (pm_Fs W W2 ch ph) n d) (W2 f 4 a) q m).bind (fun o => if o.1 = 0 then some (.inr (pu_set e (W2 f 3 a) o.2.1, o.2.2, [])) else some (.inl o)) = some o1 := by
          have h8 := ho1
          unfold pu_stp at h8
          rw [h20, if_neg (show ¬ (20 : Int32) = 0 by decide), if_neg (show ¬ (20 : Int32) = 21 by decide), if_pos rfl] at h8
          exact h8
        obtain ⟨oc, hoc, hoc2⟩ := Option.bind_eq_some_iff.mp hstp
        have hms : fX3_moveStep n17 (upw (upw w 0 2 (pu_I (t + 1))) 12 c (W2 f 6 a)) (N2 f) (W2 f) (pu_I c) (pu_I a) P = fX3_enter n17 (upw (upw w 0 2 (pu_I (t + 1))) 12 c (W2 f 6 a)) 1 (W2 f 4 a) P := by
          unfold fX3_moveStep
          rw [if_pos ((pu_ix (by omega)).mpr (by omega)), if_pos ((pu_ix (by omega)).mpr (by omega)), pu_nn (by omega), h20, if_neg (show ¬ (20 : Int32) = 0 by decide), if_neg (show ¬ (20 : Int32) = 21 by decide), if_pos rfl]
          exact pm_bs _
        rw [hms] at hmv
        by_cases hc7 : c = 7
        · obtain rfl : d = 0 := by omega
          have hen8 := pm_enter8 (w := upw (upw w 0 2 (pu_I (t + 1))) 12 c (W2 f 6 a)) (P := P) (n17 := n17) (way := 1) (f := W2 f 4 a) (by rw [g2.1.2.1, hc7])
          rw [hen8] at hmv
          have hoc : (some (3, 0, m) : Option pu_Res) = some oc := hoc
          obtain rfl := Option.some.inj hoc
          have ho1' : o1 = .inl (3, 0, m) := by
            have h7 : (some (.inl (3, 0, m)) : Option (Sum pu_Res pu_S)) = some o1 := by
              rw [← hoc2]
              exact (if_neg (show ¬ (3 : Int32) = 0 by decide)).symm
            exact (Option.some.inj h7).symm
          subst ho1'
          have ho2 : (some (.inl (3, 0, m)) : Option (Sum pu_Res pu_S)) = some o := ho2
          refine ⟨1, _, pm_go_1 hrun8 hmv, pm_fr_tr q3 (pm_fr_stop c 0 R _ 3), Or.inl ⟨?_, by omega, Or.inr ⟨(3, 0, m), (Option.some.inj ho2).symm, by show (3 : Int32) ≠ 0; decide, ?_, ?_, fun z hz => ?_⟩⟩⟩
          · rw [pv_upw, if_pos ⟨rfl, rfl⟩]
          · rw [pv_upw, if_neg fun h => absurd h.2 (by decide), pv_upw, if_pos ⟨rfl, rfl⟩]
          · rw [pv_upw, if_neg fun h => absurd h.2 (by decide), pv_upw, if_neg fun h => absurd h.2 (by decide)]
            exact g2.1.2.2.2.2.2.2.2.2.2
          · rw [pv_upw_n (by decide), pv_upw_n (by decide)]
            exact g2.2.2.2.1 z hz
        · obtain ⟨d', rfl⟩ : ∃ d', d = d' + 1 := ⟨d - 1, by omega⟩
          have hoc' : (if ixb (W2 f 4 a) fs = true ∧ q.length = np (nn (W2 f 4 a)) then pu_run (pm_Fs W W2 ch ph (nn (W2 f 4 a))) (pu_callG fs np (pm_Fs W W2 ch ph) n d') q n 0 0 (fun _ => 0, m, []) else none) = some oc := hoc
          by_cases hgd : ixb (W2 f 4 a) fs = true ∧ q.length = np (nn (W2 f 4 a))
          · rw [if_pos hgd] at hoc'
            obtain ⟨hgx, hql⟩ := hgd
            obtain ⟨hgn, hgf⟩ := pv_ixn hgx
            obtain ⟨g, hgdef⟩ : ∃ g, g = nn (W2 f 4 a) := ⟨_, rfl⟩
            have hgI : W2 f 4 a = pu_I g := by rw [hgdef]; exact pu_of hgn
            rw [← hgdef] at hoc' hql hgf
            obtain ⟨hflg, hnpg, hnpg4⟩ := hall g hgf
            have hB0 : 0 < B g := hflg.1.1.1.2.1
            have hph0 : ph g 0 = [] := by
              have h8 : (ph g 0).map (pv_P (W g)) = [] := hflg.2.2.2.1.2.2.1
              exact List.map_eq_nil_iff.mp h8
            obtain ⟨w6, e1, e2, e3, e4, e5, e6, e7, e8, e9, e10, e11, e12, e13⟩ := pm_enter (w := upw (upw w 0 2 (pu_I (t + 1))) 12 c (W2 f 6 a)) (P := P) (n17 := n17) (c := c + 1) (f := g) (p := np g) (q := 0) (R := R) (way := 1) (at0 := -2) g2.1.2.1 (by omega) (by omega) hnpg hnpg4 (by rw [g2.1.2.2.2.2.2.2.1]; congr 1; omega) (by omega) g2.1.2.2.2.2.2.2.2.2.1 hn17 hn17' (by rw [if_neg (by decide), if_pos rfl])
            rw [hgI, e1] at hmv
            have hBX6 : pm_BX w6 g (c + 1) 0 (-1) (-2) (fun _ => 0) m [] q (t + 1) R := by
              refine ⟨⟨by rw [e4 8 (by decide) (by decide)]; exact g2.1.1, e2, e8, e5, e6, e7, e3, by rw [e4 2 (by decide) (by decide)]; exact g2.1.2.2.2.2.2.2.2.1, by rw [e4 17 (by decide) (by decide)]; exact g2.1.2.2.2.2.2.2.2.2.1, by rw [e4 1 (by decide) (by decide)]; exact g2.1.2.2.2.2.2.2.2.2.2⟩, fun z hz _ => absurd hz (Nat.not_lt_zero z), fun v hv => e10 v (by omega), fun z hz => ?_, fun z hz => ?_⟩
              · rw [e13 4 (by decide) (by decide) (by decide) (by decide) (by decide) (by decide) (by decide) (by decide)]
                exact g2.2.2.2.1 z hz
              · rw [e9 z (by omega), Nat.zero_add, g2.2.1 z hz (by omega)]
            have hoc9 : oc.1 ≠ 9 := fun h => by
              have h7 : (some (.inl oc) : Option (Sum pu_Res pu_S)) = some o1 := by
                rw [← hoc2]
                exact (if_neg (show ¬ oc.1 = 0 by rw [h]; decide)).symm
              rw [← Option.some.inj h7] at ho2
              have ho2 : (some (.inl oc) : Option (Sum pu_Res pu_S)) = some o := ho2
              exact h9 oc (Option.some.inj ho2).symm h
            obtain ⟨j1, w7, f1, f2, f3⟩ := hd d' rfl n (c + 1) g 0 0 (-1) (fun _ => 0) m q (t + 1) w6 oc (by omega) hBX6 hgf hB0 hql hle (Or.inl hph0) (Or.inl hph0) hoc' hoc9
            have hgo := pm_go_app 1 j1 w w6 w7 (pm_go_1 hrun8 hmv) f1
            rcases f3 with ⟨k1, k2, k3⟩ | ⟨k1, k2, c', w9, t', kc, k3, k4, k5, ⟨l1', l2', l3', l4', l5', l6'⟩, k7, k8⟩
            · refine ⟨1 + j1, w7, hgo, pm_fr_tr q3 (pm_fr_le (Nat.le_succ c) (Nat.le_refl 0) (pm_fr_tr e12 f2)), Or.inl ⟨k1, by omega, k3.imp id fun ⟨z1, z2, z3, z4⟩ => ⟨oc, ?_, ?_, z2, z3, z4⟩⟩⟩
              · have h7 : (some (.inl oc) : Option (Sum pu_Res pu_S)) = some o1 := by
                  rw [← hoc2]
                  exact (if_neg (z1.resolve_right (by omega))).symm
                rw [← Option.some.inj h7] at ho2
                have ho2 : (some (.inl oc) : Option (Sum pu_Res pu_S)) = some o := ho2
                exact (Option.some.inj ho2).symm
              · exact z1.resolve_right (by omega)
            · obtain rfl : c' = c := by omega
              have hfr69 := pm_fr_tr e12 k5
              have hv : ixb (W2 f 3 a) 250 = true := (hg9 b hb a ha).resolve_left ((hgk b hb a ha).mp (by rw [h20]; decide))
              have h11 : w6 11 c' = pu_I f := by rw [e12.1 11 (Or.inl rfl) c' (by omega)]; exact g2.1.2.2.2.1
              have hgb := pm_gb (c := c') (b := b) (n2 := N2 f) (x9 := W2 f) (w9 := w9) (fw := W f) (a := a) (N := N f) (l1 := l1) (l2 := l2) (y := oc.2.1) l2' hc8 (by rw [hfr69.1 13 (by decide) c' (by omega)]; exact g2.1.2.2.2.2.1) (by omega) (by rw [hfr69.1 12 (by decide) c' (by omega)]; exact g2.1.2.2.1) hN6 hN3 hN (by rw [← hl]; exact hst.1 b hb) (by rw [← hl]; exact hdis.2.1 b hb) (by rw [← hl]; exact hdis.1 b hb) hv
              have hmv2 := k8 f hf6 h11
              rw [hgb] at hmv2
              have hgo2 := pm_go_app _ 1 w w7 _ hgo (pm_go_1 (mv := fun w => fX3_moveInBlocks n17 w Ns W N2 W2 P) k2 hmv2)
              have ho1' : o1 = .inr (pu_set e (W2 f 3 a) oc.2.1, oc.2.2, []) := by
                have h7 : (some (.inr (pu_set e (W2 f 3 a) oc.2.1, oc.2.2, [])) : Option (Sum pu_Res pu_S)) = some o1 := by
                  rw [← hoc2]
                  exact (if_pos k1).symm
                exact (Option.some.inj h7).symm
              subst ho1'
              have hBX9 : pm_BX w9 f c' b p9 (W2 f 6 a) e oc.2.2 [] ar t' R := by
                refine ⟨⟨l1', l2', ?_, ?_, ?_, ?_, l3', l4', l5', l6'⟩, fun z hz _ => absurd hz (Nat.not_lt_zero z), fun v hv => ?_, k7, fun z hz => ?_⟩
                · rw [hfr69.1 12 (by decide) c' (by omega)]; exact g2.1.2.2.1
                · rw [hfr69.1 11 (by decide) c' (by omega)]; exact g2.1.2.2.2.1
                · rw [hfr69.1 13 (by decide) c' (by omega)]; exact g2.1.2.2.2.2.1
                · rw [hfr69.1 14 (by decide) c' (by omega)]; exact g2.1.2.2.2.2.2.1
                · rw [hfr69.2.2.1 _ (by omega)]; exact g2.2.2.1 v hv
                · rw [hfr69.2.1 _ (by omega)]; exact g2.2.2.2.2 z hz
              obtain ⟨v0, v1⟩ := pv_ixn hv
              obtain ⟨g3, q4⟩ := pm_bcell hBX9 v1 oc.2.1
              rw [← pu_of v0] at g3
              obtain ⟨j2, w8, r1, r2, r3⟩ := ih (l1 ++ [a]) (W2 f 6 a) (pu_set e (W2 f 3 a) oc.2.1) oc.2.2 [] t' _ o (by rw [hl, List.append_assoc]; rfl) hx g3 k3 ho2 h9
              have hgo3 := pm_go_app _ j2 w _ w8 hgo2 r1
              have hfr9 : pm_fr c' 0 R w w8 := pm_fr_tr q3 (pm_fr_tr (pm_fr_le (Nat.le_succ c') (Nat.le_refl 0) hfr69) (pm_fr_tr q4 r2))
              refine ⟨_, w8, hgo3, hfr9, r3.imp (fun ⟨z1, z2, z3⟩ => ⟨z1, by omega, z3⟩) fun ⟨e', m', q', t'', z1, z2, z3, z4⟩ => ⟨e', m', q', t'', z1, z2, z3, by omega⟩⟩
          · rw [if_neg hgd] at hoc'; cases hoc'
      · obtain ⟨w6, e1, e2, e3⟩ := pm_stB (n17 := n17) (P := P) hfl hb hc8 ha g2 h20 (by omega) (by omega) (call := pu_callG fs np (pm_Fs W W2 ch ph) n d)
        rw [e1] at hmv
        rcases e3 o1 ho1 with ⟨rfl, s1, s2, s3, s4⟩ | ⟨e', m', q', rfl, s1⟩
        · have ho2 : (some (.inl (1, 0, m)) : Option (Sum pu_Res pu_S)) = some o := ho2
          exact ⟨1, w6, pm_go_1 hrun8 hmv, pm_fr_tr q3 e2, Or.inl ⟨s1, by omega, Or.inr ⟨(1, 0, m), (Option.some.inj ho2).symm, by show (1 : Int32) ≠ 0; decide, s2, s3, s4⟩⟩⟩
        · obtain ⟨j2, w8, r1, r2, r3⟩ := ih (l1 ++ [a]) (W2 f 6 a) e' m' q' (t + 1) w6 o (by rw [hl, List.append_assoc]; rfl) hx s1 hle ho2 h9
          have hgo := pm_go_app 1 j2 w w6 w8 (pm_go_1 hrun8 hmv) r1
          exact ⟨1 + j2, w8, hgo, pm_fr_tr q3 (pm_fr_tr e2 r2), r3.imp (fun ⟨z1, z2, z3⟩ => ⟨z1, by omega, z3⟩) fun ⟨e', m', q', t', z1, z2, z3, z4⟩ => ⟨e', m', q', t', z1, z2, z3, by omega⟩⟩
    · have hmv := pm_mvT (n17 := n17) (Ns := Ns) (N2 := N2) (W := W) (W2 := W2) (P := P) hBX hc8 hf6 (fun h => pu_ge (k := a) (by omega) (by rw [h]; decide)) htick
      exact ⟨1, w', pm_go_1 hrun8 hmv, sfr, Or.inl ⟨s8, by omega, Or.inl s0⟩⟩
end SB
