/-! pure side, the allocator 23: values put away in all blocks -/
section PUC
variable {B V N0 : Nat} {wb aw fw0 x0 : ST} {n8 n20 : Nat → Nat} {qs : Nat → List Nat}
theorem pa_fetch_e {b k N : Nat} {ch : Nat → List Nat} {w fw x9 : ST} {n2 : Nat → Nat} (hB : B ≤ 60) (hb : b < B) (h13 : V ≤ n8 13) (h14 : V ≤ n8 14) (hV : V < 100000) (hw : w 0 8 = pu_I k ∧ ∀ r z, ¬ (r = 0 ∧ z = 8) → w r z = wb r z) (hc : x9 0 0 = pu_I N) (hR : ∃ R, pv_sR n2 R ∧ N ≤ R ∧ R ≤ 12770) (hst : pv_stc B fw x9 ch) (hd : pv_dis B N ch) (hN : N < 8500) {v : Nat} (hv : v < V) :
    ∃ w' fw' x9' n2', fX0_fetch n8 w (pu_I b) (pu_I v) fw n2 x9 = some (pu_I k, w', fw', x9', n2') ∧ (w' 0 8 = pu_I (k + 1) ∧ ∀ r z, ¬ (r = 0 ∧ z = 8) → w' r z = wb r z) ∧ (x9' 0 0 = pu_I (N + 1) ∧ ∃ R, pv_sR n2' R ∧ N + 1 ≤ R ∧ R ≤ 12770) ∧ (pv_stc B fw' x9' (pv_up ch b (ch b ++ [N])) ∧ pv_dis B (N + 1) (pv_up ch b (ch b ++ [N]))) ∧ (∀ z, z < N → pv_S x9' z = pv_S x9 z) ∧ (∀ r, r ≠ 4 → r ≠ 5 → fw' r = fw r) ∧ pv_S x9' N = pu_fe (pa_ns wb) (pa_sl wb) (pa_nm wb) (pu_I v) k := by
  obtain ⟨hw8, hwr⟩ := hw
  obtain ⟨R, R1, R2, R3⟩ := hR
  obtain ⟨s, hs⟩ : ∃ s, s = pu_fe (pa_ns wb) (pa_sl wb) (pa_nm wb) (pu_I v) k := ⟨_, rfl⟩
  obtain ⟨fw', x9', n2', R', e1, e2, e3, e4, e5, e6, e7, e8, e9, e10, e11, e12, e13, e14, e15⟩ := pv_addStep (w := fw) (w2 := x9) hB hc R1 R2 (by omega) hst hd hb s.1 s.2.1 s.2.2.1 s.2.2.2
  have hi13 : ixb (pu_I v) (n8 13) = true := (pu_ix (by omega)).mpr (by omega)
  have hi14 : ixb (pu_I v) (n8 14) = true := (pu_ix (by omega)).mpr (by omega)
  have hu8 : upw w 0 8 (w 0 8 + 1) 0 8 = pu_I (k + 1) := by rw [pv_upw, if_pos ⟨rfl, rfl⟩, hw8, pu_su]
  refine ⟨upw w 0 8 (w 0 8 + 1), fw', x9', n2', ?_, ⟨hu8, fun r z hrz => by rw [pv_upw, if_neg hrz, hwr r z hrz]⟩, ⟨e2, R', e8, e9, by rcases e10 with h | h <;> omega⟩, ⟨e12, e13⟩, fun z hz => ?_, e14, ?_⟩
  · have hJ : ∀ y1 y2 : ST, ∀ y3 : Nat → Nat, fX0_fetch_J57 w y1 y2 y3 = some (pu_I k, upw w 0 8 (w 0 8 + 1), y1, y2, y3) := fun y1 y2 y3 => by
      unfold fX0_fetch_J57
      show some ((upw w 0 8 (w 0 8 + 1)) 0 8 - 1, _) = _
      rw [hu8, ← pu_su]
      rw [show pu_I k + 1 - 1 = pu_I k from Int32.add_sub_cancel _ _]
    unfold fX0_fetch fX0_fetch_G31_17 fX0_fetch_G56_31
    rw [if_pos hi13, pu_nn (show v < 2147483648 by omega), hwr 13 v (by omega), hwr 14 v (by omega), hw8]
    unfold pu_fe pa_ns pa_sl pa_nm at hs
    rw [pu_nn (show v < 2147483648 by omega)] at hs
    by_cases q : wb 13 v = -2
    · rw [if_pos q, if_pos hi14]
      rw [if_pos (decide_eq_true q)] at hs
      rw [hs] at e1
      have e1 : fX1_addStep fw (pu_I b) 0 (pu_I k) (wb 14 v) (-1) n2 x9 = some (pu_I N, fw', x9', n2') := e1
      rw [e1, Option.bind_some, hJ, hw8]
    · rw [if_neg q, if_pos hi13]
      rw [if_neg (fun h => q (of_decide_eq_true h))] at hs
      rw [hs] at e1
      have e1 : fX1_addStep fw (pu_I b) 26 (pu_I k) (wb 13 v) (-1) n2 x9 = some (pu_I N, fw', x9', n2') := e1
      rw [e1, Option.bind_some, hJ, hw8]
  · unfold pv_S
    rw [e5 2 z (by decide) (by decide) hz, e5 3 z (by decide) (by decide) hz, e5 4 z (by decide) (by decide) hz, e5 5 z (by decide) (by decide) hz]
  · rw [e4, ← hs]
/-- values that there are at the beginning of blocks -/
def pa_kb (S ns : Int32 → Bool) (sl nm : Int32 → Int32) (F : pu_Flow) (V : Nat) : Nat → Nat
  | 0 => V
  | i + 1 => (pu_pa S ns sl nm (F i).2.1 (pa_kb S ns sl nm F V i)).2 + (if S (F i).2.2.2.1 = true then 1 else 0)
theorem pa_kb_le {S ns : Int32 → Bool} {sl nm : Int32 → Int32} {F : pu_Flow} {V i : Nat} : pa_kb S ns sl nm F V i ≤ (pu_pa S ns sl nm (F i).2.1 (pa_kb S ns sl nm F V i)).2 ∧ (pu_pa S ns sl nm (F i).2.1 (pa_kb S ns sl nm F V i)).2 ≤ pa_kb S ns sl nm F V (i + 1) :=
  ⟨pu_pa_k _ _, Nat.le_add_right _ _⟩
theorem pa_kb_mono {S ns : Int32 → Bool} {sl nm : Int32 → Int32} {F : pu_Flow} {V i j : Nat} (h : i ≤ j) : pa_kb S ns sl nm F V i ≤ pa_kb S ns sl nm F V j := by
  induction h with
  | refl => exact Nat.le_refl _
  | step _ ih => exact Nat.le_trans ih (Nat.le_trans pa_kb_le.1 pa_kb_le.2)
/-- some blocks gone through -/
def pa_ip (B V N0 : Nat) (wb fw0 x0 : ST) (qs : Nat → List Nat) (i : Nat) (s : ST × ST × ST × (Nat → Nat)) : Prop :=
  ∃ ch N, (s.1 0 8 = pu_I (pa_kb (pa_Sb wb V) (pa_ns wb) (pa_sl wb) (pa_nm wb) (pg_F fw0 x0 qs) V i) ∧ ∀ r z, ¬ (r = 0 ∧ z = 8) → s.1 r z = wb r z) ∧ (s.2.2.1 0 0 = pu_I N ∧ ∃ R, pv_sR s.2.2.2 R ∧ N ≤ R ∧ R ≤ 12770) ∧ N = N0 + (pa_kb (pa_Sb wb V) (pa_ns wb) (pa_sl wb) (pa_nm wb) (pg_F fw0 x0 qs) V i - V) ∧
    (pv_stc B s.2.1 s.2.2.1 ch ∧ pv_dis B N ch) ∧ (∀ c, i ≤ c → c < B → ch c = qs c ∧ s.2.1 9 c = fw0 9 c ∧ ∀ z, z ∈ qs c → pv_S s.2.2.1 z = pv_S x0 z) ∧
    (∀ c, c < i → (ch c).map (pv_S s.2.2.1) = (pu_paF (pa_Sb wb V) (pa_ns wb) (pa_sl wb) (pa_nm wb) (pg_F fw0 x0 qs) (pa_kb (pa_Sb wb V) (pa_ns wb) (pa_sl wb) (pa_nm wb) (pg_F fw0 x0 qs) V) c).2.1 ∧ s.2.1 9 c = (pu_paF (pa_Sb wb V) (pa_ns wb) (pa_sl wb) (pa_nm wb) (pg_F fw0 x0 qs) (pa_kb (pa_Sb wb V) (pa_ns wb) (pa_sl wb) (pa_nm wb) (pg_F fw0 x0 qs) V) c).2.2.2.1) ∧
    (∀ r, r ≠ 4 → r ≠ 5 → r ≠ 9 → s.2.1 r = fw0 r)
theorem pa_80 (hfl : pg_fl B N0 V fw0 x0 n20 qs) (h13 : V ≤ n8 13) (h14 : V ≤ n8 14) (hawV : aw 0 8 = pu_I V) (hw8 : wb 0 8 = pu_I V) (hc : x0 0 0 = pu_I N0) (hR : ∃ R, pv_sR n20 R ∧ N0 ≤ R ∧ R ≤ 12770)
    (hK : pa_kb (pa_Sb wb V) (pa_ns wb) (pa_sl wb) (pa_nm wb) (pg_F fw0 x0 qs) V B < 100000) (hNK : N0 + (pa_kb (pa_Sb wb V) (pa_ns wb) (pa_sl wb) (pa_nm wb) (pg_F fw0 x0 qs) V B - V) < 8496) :
    ∃ s, fX0_putAway_L80 aw n8 NF 0 wb fw0 x0 n20 = some s ∧ pa_ip B V N0 wb fw0 x0 qs B s := by
  obtain ⟨⟨hB0, hBp, hB⟩, ⟨_, hN, hV⟩, hst, hd, hstep, hend⟩ := hfl
  refine pv_for (σ := ST × ST × ST × (Nat → Nat)) (G := fun k i s => fX0_putAway_L80 aw n8 k i s.1 s.2.1 s.2.2.1 s.2.2.2) (hi := B)
    (Inv := fun i s => pa_ip B V N0 wb fw0 x0 qs i s) (Q := fun s => pa_ip B V N0 wb fw0 x0 qs B s)
    (fun fu i s hi hI => ?_) (fun k s hI => ⟨s, ?_, hI⟩) B 0 NF (wb, fw0, x0, n20) (by omega) (by have := pv_NF; omega) ⟨qs, N0, ⟨hw8, fun _ _ _ => rfl⟩, ⟨hc, hR⟩, by show N0 = N0 + (V - V); omega, ⟨hst, hd⟩, fun c _ _ => ⟨rfl, rfl, fun _ _ => rfl⟩, fun c hc => by omega, fun _ _ _ _ => rfl⟩
  · obtain ⟨w, fw, x9, n2⟩ := s
    obtain ⟨ch, N, hw, ⟨hcN, hRN⟩, hNe, ⟨hst1, hd1⟩, hge, hlt, hfr⟩ := hI
    dsimp only at hw hcN hRN hNe hst1 hge hlt hfr
    generalize hkb : pa_kb (pa_Sb wb V) (pa_ns wb) (pa_sl wb) (pa_nm wb) (pg_F fw0 x0 qs) V = kb at *
    have hmono : ∀ {i j}, i ≤ j → kb i ≤ kb j := fun {i j} h => by rw [← hkb]; exact pa_kb_mono h
    have hkb0 : kb 0 = V := by rw [← hkb]; rfl
    have hle := pa_kb_le (S := pa_Sb wb V) (ns := pa_ns wb) (sl := pa_sl wb) (nm := pa_nm wb) (F := pg_F fw0 x0 qs) (V := V) (i := i)
    have hsu : kb (i + 1) = (pu_pa (pa_Sb wb V) (pa_ns wb) (pa_sl wb) (pa_nm wb) ((qs i).map (pv_S x0)) (kb i)).2 + (if pa_Sb wb V (fw0 9 i) = true then 1 else 0) := by rw [← hkb]; rfl
    rw [hkb] at hle
    have hle1 : kb i ≤ (pu_pa (pa_Sb wb V) (pa_ns wb) (pa_sl wb) (pa_nm wb) ((qs i).map (pv_S x0)) (kb i)).2 := hle.1
    have hle2 : (pu_pa (pa_Sb wb V) (pa_ns wb) (pa_sl wb) (pa_nm wb) ((qs i).map (pv_S x0)) (kb i)).2 ≤ kb (i + 1) := hle.2
    have hm1 := hmono (show 0 ≤ i by omega)
    have hm2 := hmono (show i + 1 ≤ B by omega)
    obtain ⟨hci, h9i, hSi⟩ := hge i (Nat.le_refl i) hi
    obtain ⟨fw1, t1, t2, t3, t4⟩ := pv_takeSteps hB hi hst1
    have hd2 : pv_dis B N (pv_up ch i []) := pv_dis_sub hd1 fun _ => List.nil_sublist _
    have hmapS : (qs i).map (pv_S x9) = (qs i).map (pv_S x0) := List.map_congr_left fun z hz => hSi z hz
    have hqi : ∀ z, z ∈ qs i → z < N ∧ ∀ c, c < B → z ∉ pv_up ch i [] c := fun z hz => by
      refine ⟨hd1.1 i hi z (by rw [hci]; exact hz), fun c hc hin => ?_⟩
      by_cases e : c = i
      · rw [e, pv_up_s] at hin; cases hin
      · rw [pv_up_n e] at hin
        exact e (hd1.2.2 c i z hc hi hin (by rw [hci]; exact hz))
    have hndi : (qs i).Nodup := by rw [← hci]; exact hd1.2.1 i hi
    have hchi : pv_ch (x9 6) (fw 4 i) (qs i) := by rw [← hci]; exact hst1.1 i hi
    obtain ⟨w', fw2, x2, n22, new, N2, f1, ⟨f2, f2'⟩, ⟨f3, f4⟩, f5, f6, f7, f8, f9, f10⟩ := pa_101 (wb := wb) (aw := aw) hB hi h13 h14 hV hawV (qs i) (kb i) N (pv_up ch i []) w fw1 x9 n2 NF (fw 4 i) (by have := pv_len N (qs i) hndi (fun a ha => (hqi a ha).1); have := pv_NF; omega) hchi hqi hndi (fun z hz => by
      rw [hSi z hz]
      obtain ⟨_, s1, s2, s3, s4⟩ := hstep i hi z hz
      exact ⟨s3, s4, s1, s2⟩) (by omega) hw hcN hRN t2 hd2 (by rw [hmapS]; omega) (by rw [hmapS]; omega)
    rw [hmapS] at f7 f8 f9
    rw [pv_up_s, pv_up_up, List.nil_append] at f3 f4
    have hib : ixb (pu_I i) 60 = true := (pu_ix (by omega)).mpr (by omega)
    have h29 : fw2 9 i = fw0 9 i := by rw [f6 9 (by decide) (by decide), t3 9 (by decide) (by decide)]; exact h9i
    have hw13 : ∀ z, w' 13 z = wb 13 z := fun z => f9.2 13 z (by omega)
    have hoth : ∀ c, c < B → c ≠ i → ∀ z, z ∈ ch c → pv_S x2 z = pv_S x9 z := fun c hc hne z hz => f5 z (hd1.1 c hc z hz) fun hq => hne (hd1.2.2 c i z hc hi hz (by rw [hci]; exact hq))
    have hgo : fX0_putAway_L80 aw n8 (fu + 1) (pu_I i) w fw x9 n2 = (if fw0 9 i < 0 then fX0_putAway_L80 aw n8 fu (pu_I (i + 1)) w' fw2 x2 n22 else (if ixb (fw0 9 i) (n8 13) = true then (if wb 13 (nn (fw0 9 i)) = -1 then fX0_putAway_L80 aw n8 fu (pu_I (i + 1)) w' fw2 x2 n22 else ((fX0_fetch n8 w' (pu_I i) (fw0 9 i) fw2 n22 x2).bind fun o_43 => fX0_putAway_L80 aw n8 fu (pu_I (i + 1)) o_43.2.1 (upw o_43.2.2.1 9 i o_43.1) o_43.2.2.2.1 o_43.2.2.2.2)) else none)) := by
      show (if (fw 0 0) ≤ pu_I i then some (w, fw, x9, n2) else ((fX1_takeSteps fw (pu_I i)).bind fun (o_22 : Int32 × ST) => ((fX0_putAway_L101 aw n8 (pu_I i) NF (o_22.1) w (o_22.2) x9 n2).bind fun (o101 : ST × ST × ST × (Nat → Nat)) => (fX0_putAway_G134_38 (fX0_putAway_L80 aw n8 fu) n8 (pu_I i) o101)))) = _
      rw [hfr 0 (by decide) (by decide) (by decide), hB0, if_neg (by rw [pu_le (by omega) (by omega)]; omega), t1, Option.bind_some, f1, Option.bind_some]
      unfold fX0_putAway_G134_38 fX0_putAway_G176_55 fX0_putAway_J177 lt9
      dsimp only
      rw [if_pos hib, pu_nn (show i < 2147483648 by omega)]
      simp only [h29, hw13, pu_su, hib, if_true]
    have hnone : (fw0 9 i < 0 ∨ ∃ u, u < V ∧ fw0 9 i = pu_I u) := by
      rcases (hend i hi).1 with q | q
      · exact Or.inl ((hend i hi).2.1 q)
      · exact Or.inr ((hend i hi).2.2.1 q)
    have hstay : pa_Sb wb V (fw0 9 i) = false → fX0_putAway_L80 aw n8 (fu + 1) (pu_I i) w fw x9 n2 = fX0_putAway_L80 aw n8 fu (pu_I (i + 1)) w' fw2 x2 n22 → ∃ s', fX0_putAway_L80 aw n8 (fu + 1) (pu_I i) w fw x9 n2 = fX0_putAway_L80 aw n8 fu (pu_I (i + 1)) s'.1 s'.2.1 s'.2.2.1 s'.2.2.2 ∧ pa_ip B V N0 wb fw0 x0 qs (i + 1) s' := fun hS hgo => by
      rw [hS, if_neg (by decide), Nat.add_zero] at hsu
      refine ⟨(w', fw2, x2, n22), hgo, pv_up ch i new, N2, ?_, ⟨f2, f2'⟩, ?_, ⟨f3, f4⟩, fun c hc hcB => ?_, fun c hc => ?_, fun r r4 r5 r9 => by show fw2 r = _; rw [f6 r r4 r5, t3 r r4 r5]; exact hfr r r4 r5 r9⟩
      · rw [hkb, hsu]; exact f9
      · rw [hkb]; omega
      · obtain ⟨g1, g2, g3⟩ := hge c (by omega) hcB
        refine ⟨by rw [pv_up_n (by omega)]; exact g1, by show fw2 9 c = _; rw [f6 9 (by decide) (by decide), t3 9 (by decide) (by decide)]; exact g2, fun z hz => ?_⟩
        show pv_S x2 z = _
        rw [hoth c hcB (by omega) z (by rw [g1]; exact hz)]
        exact g3 z hz
      · rw [hkb]
        by_cases e : c = i
        · subst e
          rw [pv_up_s]
          refine ⟨?_, ?_⟩
          · show new.map (pv_S x2) = (pu_pa (pa_Sb wb V) (pa_ns wb) (pa_sl wb) (pa_nm wb) ((qs c).map (pv_S x0)) (kb c)).1 ++ (if pa_Sb wb V (fw0 9 c) = true then _ else [])
            rw [hS, if_neg (by decide), List.append_nil]
            exact f7
          · show fw2 9 c = (if pa_Sb wb V (fw0 9 c) = true then _ else fw0 9 c)
            rw [hS, if_neg (by decide)]
            exact h29
        · obtain ⟨g1, g2⟩ := hlt c (by omega)
          rw [pv_up_n e]
          refine ⟨?_, by show fw2 9 c = _; rw [f6 9 (by decide) (by decide), t3 9 (by decide) (by decide)]; exact g2⟩
          rw [← g1]
          exact List.map_congr_left fun z hz => hoth c (by omega) e z hz
    show ∃ s', fX0_putAway_L80 aw n8 (fu + 1) (pu_I i) w fw x9 n2 = fX0_putAway_L80 aw n8 fu (pu_I (i + 1)) s'.1 s'.2.1 s'.2.2.1 s'.2.2.2 ∧ pa_ip B V N0 wb fw0 x0 qs (i + 1) s'
    rcases hnone with hneg | ⟨u, hu, eu⟩
    · refine hstay ?_ (by rw [hgo, if_pos hneg])
      unfold pa_Sb
      exact decide_eq_false fun h => h.1 hneg
    · rw [eu] at hgo
      rw [if_neg (pu_ge (by omega)), if_pos ((pu_ix (by omega)).mpr (by omega)), pu_nn (show u < 2147483648 by omega)] at hgo
      by_cases e13 : wb 13 u = -1
      · refine hstay ?_ (by rw [hgo, if_pos e13])
        rw [eu]
        cases e : pa_Sb wb V (pu_I u) with
        | false => rfl
        | true => exact absurd e13 ((pa_Sb_u hV hu).mp e)
      · have hS : pa_Sb wb V (fw0 9 i) = true := by rw [eu]; exact (pa_Sb_u hV hu).mpr e13
        rw [hS, if_pos rfl] at hsu
        obtain ⟨w3, fw3, x3, n23, g1, g2, g3, ⟨g4, g5⟩, g6, g7, g8⟩ := pa_fetch_e hB hi h13 h14 hV f9 f2 f2' f3 f4 (by omega) hu
        rw [pv_up_s, pv_up_up] at g4 g5
        rw [if_neg e13, g1, Option.bind_some] at hgo
        refine ⟨(w3, upw fw3 9 i (pu_I (pu_pa (pa_Sb wb V) (pa_ns wb) (pa_sl wb) (pa_nm wb) ((qs i).map (pv_S x0)) (kb i)).2), x3, n23), hgo, pv_up ch i (new ++ [N2]), N2 + 1, ?_, g3, ?_, ⟨?_, g5⟩, fun c hc hcB => ?_, fun c hc => ?_, fun r r4 r5 r9 => ?_⟩
        · rw [hkb, hsu]; exact g2
        · rw [hkb]; omega
        · show pv_stc B (upw fw3 9 i _) x3 _
          unfold pv_stc
          rw [pv_upw_n (by decide), pv_upw_n (by decide)]
          exact g4
        · obtain ⟨k1, k2, k3⟩ := hge c (by omega) hcB
          refine ⟨by rw [pv_up_n (by omega)]; exact k1, ?_, fun z hz => ?_⟩
          · show upw fw3 9 i _ 9 c = _
            rw [pv_upw, if_neg (fun q => by omega), g7 9 (by decide) (by decide), f6 9 (by decide) (by decide), t3 9 (by decide) (by decide)]
            exact k2
          · show pv_S x3 z = _
            have hzN : z < N := hd1.1 c hcB z (by rw [k1]; exact hz)
            rw [g6 z (by omega), hoth c hcB (by omega) z (by rw [k1]; exact hz)]
            exact k3 z hz
        · rw [hkb]
          by_cases e : c = i
          · subst e
            rw [pv_up_s]
            refine ⟨?_, ?_⟩
            · show (new ++ [N2]).map (pv_S x3) = (pu_pa (pa_Sb wb V) (pa_ns wb) (pa_sl wb) (pa_nm wb) ((qs c).map (pv_S x0)) (kb c)).1 ++ (if pa_Sb wb V (fw0 9 c) = true then [pu_fe (pa_ns wb) (pa_sl wb) (pa_nm wb) (fw0 9 c) (pu_pa (pa_Sb wb V) (pa_ns wb) (pa_sl wb) (pa_nm wb) ((qs c).map (pv_S x0)) (kb c)).2] else [])
              rw [hS, if_pos rfl, List.map_append, ← f7, eu]
              congr 1
              · exact List.map_congr_left fun z hz => g6 z (by
                  rcases f10 z hz with q | q
                  · have := (hqi z q).1; omega
                  · omega)
              · show [pv_S x3 N2] = _
                rw [g8]
            · show upw fw3 9 c _ 9 c = (if pa_Sb wb V (fw0 9 c) = true then _ else fw0 9 c)
              rw [hS, if_pos rfl, pv_upw, if_pos ⟨rfl, rfl⟩]
              rfl
          · obtain ⟨k1, k2⟩ := hlt c (by omega)
            rw [pv_up_n e]
            refine ⟨?_, ?_⟩
            · rw [← k1]
              exact List.map_congr_left fun z hz => by
                have hzN : z < N := hd1.1 c (by omega) z hz
                show pv_S x3 z = _
                rw [g6 z (by omega), hoth c (by omega) e z hz]
            · show upw fw3 9 i _ 9 c = _
              rw [pv_upw, if_neg (fun q => e q.2), g7 9 (by decide) (by decide), f6 9 (by decide) (by decide), t3 9 (by decide) (by decide)]
              exact k2
        · show upw fw3 9 i _ r = _
          rw [pv_upw_n r9, g7 r r4 r5, f6 r r4 r5, t3 r r4 r5]
          exact hfr r r4 r5 r9
  · obtain ⟨w, fw, x9, n2⟩ := s
    obtain ⟨ch, N, hw, _, _, _, _, _, hfr⟩ := hI
    dsimp only at hfr
    show (if (fw 0 0) ≤ pu_I B then some (w, fw, x9, n2) else _) = _
    rw [hfr 0 (by decide) (by decide) (by decide), hB0, if_pos (Int32.le_refl _)]
end PUC
