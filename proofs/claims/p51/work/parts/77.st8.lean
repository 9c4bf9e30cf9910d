/-! pure side, stores 8: dropping, whole -/
def pv_cb1 (w2 : ST) (ch ph : Nat → List Nat) (b : Nat) : Nat := (ph b).length + ((ch b).filter (fun a => !decide (w2 3 a < 0))).length
def pv_cvn (w2 : ST) (ch ph : Nat → List Nat) : Nat → Nat
  | 0 => 0
  | b + 1 => pv_cvn w2 ch ph b + pv_cb1 w2 ch ph b
section DD
variable {n n2 : Nat → Nat} {w w2 : ST} {B N M : Nat} {ch ph : Nat → List Nat} {wb : Nat → Nat}
theorem pv_countPhis (hok : pv_ok n w n2 w2 B N M ch ph) {b : Nat} (hb : b < B) : fX1_countPhis n w (pu_I b) = some (pu_I (ph b).length) := by
  obtain ⟨⟨_, _, hB⟩, _, ⟨hM19, hM20, _, hM⟩, _, _, hph, hdp, _⟩ := id hok
  have hb31 : b < 2147483648 := by omega
  obtain ⟨t, h1, h2⟩ := pv_chl (G := fun k x (s : Int32) => fX1_countPhis_L9 n w k s x) (nx := w 20) (Inv := fun done rem (s : Int32) => (∀ a ∈ rem, a < M) ∧ done.length + rem.length = (ph b).length ∧ s = pu_I done.length) (Q := fun (s : Int32) => s = pu_I (ph b).length)
    (fun k a done rem s hI => by
      have ha := hI.1 a List.mem_cons_self
      have ha31 : a < 2147483648 := by omega
      refine ⟨s + 1, ?_, fun z hz => hI.1 z (List.mem_cons_of_mem _ hz), ?_, ?_⟩
      · show (if pu_I a < 0 then some s else (if ixb (pu_I a) (n 20) = true then ((fX1_countPhis_L9 n w k) (s + 1) (w 20 (nn (pu_I a)))) else none)) = _
        rw [if_neg (pu_ge ha31), if_pos ((pu_ix ha31).mpr (by omega)), pu_nn ha31]
      · have := hI.2.1
        simp only [List.length_append, List.length_cons, List.length_nil] at this ⊢
        omega
      · rw [hI.2.2, pu_su]
        simp)
    (fun k x done s hx hI => ⟨s, by
      show (if x < 0 then some s else _) = _
      rw [if_pos hx], by
      have := hI.2.1
      simp only [List.length_nil, Nat.add_zero] at this
      rw [hI.2.2, this]⟩) (ph b) [] (w 6 b) NF 0 (hph.1 b hb) (by have := pv_len M (ph b) (hdp.2.1 b hb) (hdp.1 b hb); have := pv_NF; omega) ⟨hdp.1 b hb, by simp, rfl⟩
  have h1 : fX1_countPhis_L9 n w NF 0 (w 6 b) = some t := h1
  unfold fX1_countPhis
  rw [if_pos ((pu_ix hb31).mpr (by omega)), pu_nn hb31, h1, Option.bind_some, h2]
theorem pv_countValues (hok : pv_ok n w n2 w2 B N M ch ph) : fX1_countValues n w n2 w2 = some (pu_I (pv_cvn w2 ch ph B)) := by
  obtain ⟨⟨hw0, _, hB⟩, ⟨_, hN3, _, _, hN6, hN⟩, _, hst, hd, _⟩ := id hok
  obtain ⟨t, h1, h2⟩ := pv_for (G := fun k i (s : Int32) => fX1_countValues_L4 n w n2 w2 k s i) (hi := B) (Inv := fun i (s : Int32) => s = pu_I (pv_cvn w2 ch ph i)) (Q := fun (s : Int32) => s = pu_I (pv_cvn w2 ch ph B))
    (fun k i s hi hI => by
      have hi31 : i < 2147483648 := by omega
      obtain ⟨t, g1, g2⟩ := pv_chl (G := fun k x (s : Int32) => fX1_countValues_L27 n2 w2 k s x) (nx := w2 6) (Inv := fun done rem (z : Int32) => (∀ a ∈ rem, a < N) ∧ ch i = done ++ rem ∧ z = s + pu_I (ph i).length + pu_I ((done.filter (fun a => !decide (w2 3 a < 0))).length)) (Q := fun (z : Int32) => z = s + pu_I (ph i).length + pu_I (((ch i).filter (fun a => !decide (w2 3 a < 0))).length))
        (fun k a done rem z hI => by
          have ha := hI.1 a List.mem_cons_self
          have ha31 : a < 2147483648 := by omega
          have hform : fX1_countValues_L27 n2 w2 (k + 1) z (pu_I a) = fX1_countValues_L27 n2 w2 k (if w2 3 a < 0 then z + 0 else z + 1) (w2 6 a) := by
            show (if pu_I a < 0 then some z else (if ixb (pu_I a) (n2 3) = true then (if (w2 3 (nn (pu_I a))) < 0 then (fX1_countValues_J49 (fX1_countValues_L27 n2 w2 k) n2 w2 (pu_I a) 0 z) else (fX1_countValues_J49 (fX1_countValues_L27 n2 w2 k) n2 w2 (pu_I a) 1 z)) else none)) = _
            rw [if_neg (pu_ge ha31), if_pos ((pu_ix ha31).mpr (by omega)), pu_nn ha31]
            unfold fX1_countValues_J49
            rw [if_pos ((pu_ix ha31).mpr (by omega)), pu_nn ha31]
            by_cases h0 : w2 3 a < 0
            · rw [if_pos h0, if_pos h0]
            · rw [if_neg h0, if_neg h0, if_pos ((pu_ix ha31).mpr (by omega))]
          refine ⟨_, hform, fun y hy => hI.1 y (List.mem_cons_of_mem _ hy), by rw [hI.2.1]; simp, ?_⟩
          rw [hI.2.2, List.filter_append, List.length_append, List.filter_cons]
          by_cases h0 : w2 3 a < 0
          · rw [if_pos h0, if_neg (by simp [h0])]
            simp
          · rw [if_neg h0, if_pos (by simp [h0])]
            simp only [List.filter_nil, List.length_cons, List.length_nil]
            rw [Int32.add_assoc (s + pu_I (ph i).length), pu_su])
        (fun k x done z hx hI => ⟨z, by
          show (if x < 0 then some z else _) = _
          rw [if_pos hx], by
          rw [hI.2.2, hI.2.1, List.append_nil]⟩) (ch i) [] (w 4 i) NF (s + pu_I (ph i).length) (hst.1 i hi) (by have := pv_len N (ch i) (hd.2.1 i hi) (hd.1 i hi); have := pv_NF; omega) ⟨hd.1 i hi, rfl, by
            show _ = s + pu_I (ph i).length + pu_I 0
            exact (Int32.add_zero _).symm⟩
      refine ⟨t, ?_, ?_⟩
      · have g1 : fX1_countValues_L27 n2 w2 NF (s + pu_I (ph i).length) (w 4 i) = some t := g1
        show (if (w 0 0) ≤ pu_I i then some s else ((fX1_countPhis n w (pu_I i)).bind fun (o_2 : Int32) => (if ixb (pu_I i) 60 = true then ((fX1_countValues_L27 n2 w2 NF (s + o_2) (w 4 (nn (pu_I i)))).bind fun (o27 : Int32) => ((fX1_countValues_L4 n w n2 w2 k) o27 (pu_I i + 1))) else none))) = _
        rw [hw0, if_neg (by rw [pu_le (by omega) hi31]; omega), pv_countPhis hok hi, Option.bind_some, if_pos ((pu_ix hi31).mpr (by omega)), pu_nn hi31, g1, Option.bind_some, pu_su]
      · rw [g2, hI, pv_add, pv_add]
        show _ = pu_I (pv_cvn w2 ch ph i + ((ph i).length + _))
        rw [Nat.add_assoc])
    (fun k s hI => ⟨s, by
      show (if w 0 0 ≤ pu_I B then some s else _) = _
      rw [hw0, if_pos (Int32.le_refl _)], hI⟩) B 0 NF 0 (by omega) (by have := pv_NF; omega) rfl
  have h1 : fX1_countValues_L4 n w n2 w2 NF 0 0 = some t := h1
  unfold fX1_countValues
  rw [h1, Option.bind_some, h2]
theorem pv_cvn_le {w3 : ST} {ch' ph' : Nat → List Nat} (h3 : w3 3 = w2 3) (hc : ∀ b, List.Sublist (ch' b) (ch b)) (hp : ∀ b, List.Sublist (ph' b) (ph b)) : ∀ B, pv_cvn w3 ch' ph' B ≤ pv_cvn w2 ch ph B := by
  intro B
  induction B with
  | zero => exact Nat.le_refl _
  | succ B ih =>
    show pv_cvn w3 ch' ph' B + pv_cb1 w3 ch' ph' B ≤ pv_cvn w2 ch ph B + pv_cb1 w2 ch ph B
    have h1 : pv_cb1 w3 ch' ph' B ≤ pv_cb1 w2 ch ph B := by
      unfold pv_cb1
      rw [h3]
      have a := (hp B).length_le
      have b := ((hc B).filter (fun a => !decide (w2 3 a < 0))).length_le
      omega
    omega
/-- the flow that the stores hold, with the wanted alone -/
def pv_wf (g : ST) (v : Int32) : Bool := decide (g 7 (nn v) = 0)
theorem pv_flt_map {α β : Type} (f : α → β) (p : β → Bool) (l : List α) : (l.map f).filter p = (l.filter (fun a => p (f a))).map f := by
  induction l with
  | nil => rfl
  | cons a l ih =>
    rw [List.map_cons, List.filter_cons, List.filter_cons, ih]
    by_cases h : p (f a) = true
    · rw [if_pos h, if_pos h, List.map_cons]
    · rw [if_neg h, if_neg h]
/-- gk says whether a value is given -/
def pv_gks (w2 : ST) (B : Nat) (ch : Nat → List Nat) : Prop := ∀ b, b < B → ∀ a ∈ ch b, (pu_gk (w2 2 a) = true ↔ ¬ w2 3 a < 0)
theorem pv_nn_inj {x y : Int32} (hx : ¬ x < 0) (hy : ¬ y < 0) (h : nn x = nn y) : x = y := by
  rw [pu_of hx, pu_of hy, h]
theorem pv_nodup_map {α β : Type} {f : α → β} : ∀ (l : List α), (l.map f).Nodup → ∀ a ∈ l, ∀ b ∈ l, f a = f b → a = b := by
  intro l
  induction l with
  | nil => intro _ a ha; cases ha
  | cons x l ih =>
    intro h a ha b hb e
    rw [List.map_cons, List.nodup_cons] at h
    rcases List.mem_cons.mp ha with rfl | ha
    · rcases List.mem_cons.mp hb with rfl | hb
      · rfl
      · exact absurd (e ▸ List.mem_map_of_mem hb) h.1
    · rcases List.mem_cons.mp hb with hbx | hb
      · exact absurd (show f x ∈ l.map f by rw [← hbx, ← e]; exact List.mem_map_of_mem ha) h.1
      · exact ih h.2 a ha b hb e
theorem pv_uniq {D : Nat → Nat → Prop} (hS : pu_ssa (pv_F w w2 ch ph) (fun b => b < B) D) (hgk : pv_gks w2 B ch) {b c a z : Nat} (hb : b < B) (hc : c < B) (ha : a ∈ ch b) (hz : z ∈ ch c) (ha0 : ¬ w2 3 a < 0) (hz0 : ¬ w2 3 z < 0) (h : nn (w2 3 a) = nn (w2 3 z)) : a = z := by
  have he := pv_nn_inj ha0 hz0 h
  have ma : pv_S w2 a ∈ (pv_F w w2 ch ph b).2.1 := List.mem_map_of_mem ha
  have mz : pv_S w2 z ∈ (pv_F w w2 ch ph c).2.1 := List.mem_map_of_mem hz
  have ga : pu_gk (pv_S w2 a).1 = true := (hgk b hb a ha).mpr ha0
  have gz : pu_gk (pv_S w2 z).1 = true := (hgk c hc z hz).mpr hz0
  have hbc := hS.2.2.2.2.1.2 b c (w2 3 a) hb hc (pu_bl_m ma ga) (by rw [he]; exact pu_bl_m mz gz)
  subst hbc
  have hn := (List.nodup_append.mp (hS.2.2.2.2.1.1 b hb)).2.1
  unfold pu_gvs at hn
  have hn : ((((ch b).map (pv_S w2)).filter (fun s => pu_gk s.1)).map (fun s => s.2.1)).Nodup := hn
  rw [pv_flt_map, List.map_map] at hn
  exact pv_nodup_map _ hn a (List.mem_filter.mpr ⟨ha, ga⟩) z (List.mem_filter.mpr ⟨hz, gz⟩) he
theorem pv_uniq_p {D : Nat → Nat → Prop} (hS : pu_ssa (pv_F w w2 ch ph) (fun b => b < B) D) (hgk : pv_gks w2 B ch) {b c a z : Nat} (hb : b < B) (hc : c < B) (ha : a ∈ ph b) (hz : z ∈ ch c) (ha0 : ¬ w 19 a < 0) (hz0 : ¬ w2 3 z < 0) (h : nn (w 19 a) = nn (w2 3 z)) : False := by
  have he := pv_nn_inj ha0 hz0 h
  have ma : pv_P w a ∈ (pv_F w w2 ch ph b).1 := List.mem_map_of_mem ha
  have mz : pv_S w2 z ∈ (pv_F w w2 ch ph c).2.1 := List.mem_map_of_mem hz
  have gz : pu_gk (pv_S w2 z).1 = true := (hgk c hc z hz).mpr hz0
  have hbc := hS.2.2.2.2.1.2 b c (w 19 a) hb hc (pu_bl_p ma) (by rw [he]; exact pu_bl_m mz gz)
  subst hbc
  have hn := (List.nodup_append.mp (hS.2.2.2.2.1.1 b hb)).2.2
  exact hn (w 19 a) (List.mem_map_of_mem (f := Prod.fst) ma) (w2 3 z) (pu_gvs_mem mz gz) he
/-- the flow with the wanted alone is in order -/
theorem pu_drop_ssa {F : pu_Flow} {L : Nat → Prop} {D : Nat → Nat → Prop} (hS : pu_ssa F L D) {W : Int32 → Bool}
    (hE : ∀ b, L b → ((F b).2.2.1 = 23 ∨ (F b).2.2.1 = 24) → W (F b).2.2.2.1 = true)
    (hU : ∀ b, L b → ∀ s ∈ (F b).2.1, pu_kp W s = true → (pu_ul s.1 = true → W s.2.2.1 = true) ∧ (pu_ur s.1 = true → W s.2.2.2 = true))
    (hP : ∀ b c z, L b → pu_sc F b c → z ∈ (F c).1 → W z.1 = true → W (z.2 b) = true) : pu_ssa (pu_dropF F W) L D := by
  have hph : ∀ b v, W v = true → v ∈ (F b).1.map Prod.fst → v ∈ (pu_dropF F W b).1.map Prod.fst := by
    intro b v hv h
    obtain ⟨z, hz, rfl⟩ := List.mem_map.mp h
    exact List.mem_map_of_mem (f := Prod.fst) (List.mem_filter.mpr ⟨hz, hv⟩)
  have hgv : ∀ (l : List pu_Stp) v, W v = true → v ∈ pu_gvs l → v ∈ pu_gvs (l.filter (pu_kp W)) := by
    intro l v hv h
    obtain ⟨s, hs, hg, rfl⟩ := pu_gvs_get h
    exact pu_gvs_mem (List.mem_filter.mpr ⟨hs, by unfold pu_kp; rw [hv]; cases pu_gk s.1 <;> rfl⟩) hg
  have hav : ∀ b l v, W v = true → pu_av F D b l v → pu_av (pu_dropF F W) D b (l.filter (pu_kp W)) v := by
    rintro b l v hv (h | h | ⟨d, h1, h2, h3⟩)
    · exact Or.inl (hph b v hv h)
    · exact Or.inr (Or.inl (hgv l v hv h))
    · refine Or.inr (Or.inr ⟨d, h1, h2, ?_⟩)
      rcases List.mem_append.mp h3 with h | h
      · exact List.mem_append_left _ (hph d v hv h)
      · exact List.mem_append_right _ (hgv _ v hv h)
  have hbl : ∀ b, List.Sublist (pu_bl (pu_dropF F W) b) (pu_bl F b) := by
    intro b
    refine List.Sublist.append (List.Sublist.map _ List.filter_sublist) (List.Sublist.map _ ?_)
    show List.Sublist (((F b).2.1.filter (pu_kp W)).filter _) ((F b).2.1.filter _)
    exact List.Sublist.filter _ List.filter_sublist
  refine ⟨hS.1, hS.2.1, ?_, fun b hb s hs => hS.2.2.2.1 b hb s (List.mem_filter.mp hs).1, ⟨fun b hb => List.Nodup.sublist (hbl b) (hS.2.2.2.2.1.1 b hb), fun b c v hb hc h1 h2 => hS.2.2.2.2.1.2 b c v hb hc ((hbl b).subset h1) ((hbl c).subset h2)⟩, fun b l1 s l2 hb hl => ?_, fun b hb he => hav b _ _ (hE b hb he) (hS.2.2.2.2.2.2.1 b hb he), fun b c z hb hs hz => ?_⟩
  · show (F 0).1.filter _ = []
    rw [hS.2.2.1]
    rfl
  · have hl : (F b).2.1.filter (pu_kp W) = l1 ++ s :: l2 := hl
    obtain ⟨m1, m2, e1, e2, e3⟩ := List.filter_eq_append_iff.mp hl
    obtain ⟨k1, k2, f1, f2, f3, f4⟩ := List.filter_eq_cons_iff.mp e3
    have hall : (F b).2.1 = (m1 ++ k1) ++ s :: k2 := by rw [e1, f1, List.append_assoc]
    have hk0 : k1.filter (pu_kp W) = [] := List.filter_eq_nil_iff.mpr f2
    have hl1 : (m1 ++ k1).filter (pu_kp W) = l1 := by rw [List.filter_append, e2, hk0, List.append_nil]
    have hu := hS.2.2.2.2.2.1 b _ s k2 hb hall
    have hw := hU b hb s (by rw [hall]; exact List.mem_append_right _ List.mem_cons_self) f3
    rw [← hl1]
    exact ⟨fun h => hav b _ _ (hw.1 h) (hu.1 h), fun h => hav b _ _ (hw.2 h) (hu.2 h)⟩
  · have hz := List.mem_filter.mp hz
    exact hav b _ _ (hP b c z hb hs hz.1 hz.2) (hS.2.2.2.2.2.2.2 b c z hb hs hz.1)
/-- drop: the stores hold the flow with the wanted alone, and it does what the flow did -/
theorem pv_drop {g : ST} {D : Nat → Nat → Prop} (hok : pv_ok n w n2 w2 B N M ch ph) (hrg : pv_rg w2 B ch) (hw : pv_wys B w wb) (htk : pv_tk B w wb ph) (hev : ∀ b, b < B → ¬ w 9 b < 0 → ixb (w 9 b) 250 = true)
    (hek : ∀ b, b < B → (w 8 b = 23 ∨ w 8 b = 24) → ¬ w 9 b < 0) (hsu : ∀ b c, b < B → pu_sc (pv_F w w2 ch ph) b c → w 10 b = pu_I c ∨ w 11 b = pu_I c) (hgk : pv_gks w2 B ch) (hS : pu_ssa (pv_F w w2 ch ph) (fun b => b < B) D) :
    ∃ c g' w' w2' ch' ph', fX5_dropUnwanted g n w n2 w2 = some (pu_I c, g', w', w2') ∧ c ≤ pv_cvn w2 ch ph B ∧ pv_ok n w' n2 w2' B N M ch' ph' ∧ (∀ r, r ≠ 4 → r ≠ 5 → r ≠ 6 → r ≠ 7 → r ≠ 20 → w' r = w r) ∧ (∀ r, r ≠ 6 → w2' r = w2 r) ∧ (∀ b, List.Sublist (ch' b) (ch b)) ∧ (∀ b, List.Sublist (ph' b) (ph b)) ∧ (∃ F1, pu_ssa F1 (fun b => b < B) D ∧ ∀ b, b < B → pv_F w' w2' ch' ph' b = F1 b) ∧
      (∀ call ar k e m q r, pu_run (pv_F w w2 ch ph) call ar k 0 0 (e, m, q) = some r → pu_run (pv_F w' w2' ch' ph') call ar k 0 0 (e, m, q) = some r) := by
  obtain ⟨g1, a1, a2, a3⟩ := pv_findGivers (g := g) hok
  obtain ⟨f1, b1, b2⟩ := pv_fill (n := 250) (f := g1 7) (v := 1) (by decide)
  have hg2 : pv_giv w2 B ch (srw g1 7 f1) := pv_giv_2 (pv_srw_n (by decide)) a2
  obtain ⟨g3, c1, c2, c3, c4⟩ := pv_drop_loop (wb := wb) hok hrg hw htk hev 250 (srw g1 7 f1) NF 0 hg2 (pv_cnt_le _) (by have := pv_NF; omega) (by omega)
  have hcg : ∀ b, b < B → ∀ a ∈ ch b, w2 2 a = 20 → ¬ w2 3 a < 0 := fun b hb a ha h => (hgk b hb a ha).mp (by rw [h]; decide)
  obtain ⟨g4, d1, d2, d3, d4, d5⟩ := pv_keep (g := g3) hok hcg
  obtain ⟨⟨hw0, hB0, hB⟩, ⟨hN2, hN3, hN4, hN5, hN6, hN⟩, ⟨hM19, hM20, hM21, hM⟩, hst, hd, hph, hdp, hix, hix2⟩ := id hok
  obtain ⟨w', w2', e1, e2, e3, e4, e5⟩ := pv_leaveOut (m := 250) (f := g4 7) hB hw0 hN6 hN3 hM20 hM19 hN hM hst hd hph hdp hix hix2
  have r3 : w2' 3 = w2 3 := e5 3 (by decide)
  have r19 : w' 19 = w 19 := e4 19 (by decide) (by decide) (by decide) (by decide) (by decide)
  have r21 : w' 21 = w 21 := e4 21 (by decide) (by decide) (by decide) (by decide) (by decide)
  have r00 : w' 0 = w 0 := e4 0 (by decide) (by decide) (by decide) (by decide) (by decide)
  have hsc : ∀ b, List.Sublist ((ch b).filter (pv_ks (g4 7) w2)) (ch b) := fun b => List.filter_sublist
  have hsp : ∀ b, List.Sublist ((ph b).filter (pv_kp (g4 7) w)) (ph b) := fun b => List.filter_sublist
  have hok' : pv_ok n w' n2 w2' B N M (fun b => (ch b).filter (pv_ks (g4 7) w2)) (fun b => (ph b).filter (pv_kp (g4 7) w)) := by
    refine ⟨⟨by rw [r00]; exact hw0, hB0, hB⟩, ⟨hN2, hN3, hN4, hN5, hN6, hN⟩, ⟨hM19, hM20, hM21, hM⟩, e2, pv_dis_all hd hsc, e3, pv_dis_all hdp hsp, fun b hb a ha => ?_, fun b hb a ha => ?_⟩
    · rw [r19]; exact hix b hb a ((hsp b).subset ha)
    · rw [r3]; exact hix2 b hb a ((hsc b).subset ha)
  have hle := pv_cvn_le (w2 := w2) (w3 := w2') (ch := ch) (ph := ph) r3 hsc hsp B
  have hmono : ∀ v, g3 7 v = 0 → g4 7 v = 0 := fun v hv => (d3 v).elim id fun h => by rw [h]; exact hv
  have hg32 : g3 2 = g1 2 := by rw [c2 2 (by decide)]; exact pv_srw_n (by decide)
  have hgiv3 : pv_giv w2 B ch g3 := pv_giv_2 hg32 a2
  have hFeq : pv_F w' w2' (fun b => (ch b).filter (pv_ks (g4 7) w2)) (fun b => (ph b).filter (pv_kp (g4 7) w)) = fun b => (((pv_F w w2 ch ph b).1.filter (fun z => pv_wf g4 z.1)), ((ch b).filter (pv_ks (g4 7) w2)).map (pv_S w2), (pv_F w w2 ch ph b).2.2) := by
    funext b
    have hP : pv_P w' = pv_P w := by funext a; unfold pv_P; rw [r19, r21]
    have hSS : pv_S w2' = pv_S w2 := by funext a; unfold pv_S; rw [e5 2 (by decide), e5 3 (by decide), e5 4 (by decide), e5 5 (by decide)]
    have h8 : w' 8 = w 8 := e4 8 (by decide) (by decide) (by decide) (by decide) (by decide)
    have h9 : w' 9 = w 9 := e4 9 (by decide) (by decide) (by decide) (by decide) (by decide)
    have h10 : w' 10 = w 10 := e4 10 (by decide) (by decide) (by decide) (by decide) (by decide)
    have h11 : w' 11 = w 11 := e4 11 (by decide) (by decide) (by decide) (by decide) (by decide)
    unfold pv_F
    rw [hP, hSS, h8, h9, h10, h11, pv_flt_map]
    rfl
  have hcond : (∀ b, b < B → ((pv_F w w2 ch ph b).2.2.1 = 23 ∨ (pv_F w w2 ch ph b).2.2.1 = 24) → pv_wf g4 (pv_F w w2 ch ph b).2.2.2.1 = true) ∧
      (∀ b, b < B → ∀ s ∈ (pv_F w w2 ch ph b).2.1, pu_kp (pv_wf g4) s = true → (pu_ul s.1 = true → pv_wf g4 s.2.2.1 = true) ∧ (pu_ur s.1 = true → pv_wf g4 s.2.2.2 = true)) ∧
      (∀ b c z, b < B → pu_sc (pv_F w w2 ch ph) b c → z ∈ (pv_F w w2 ch ph c).1 → pv_wf g4 z.1 = true → pv_wf g4 (z.2 b) = true) ∧
      (∀ b, b < B → ∀ s ∈ (pv_F w w2 ch ph b).2.1, pu_kp (pv_wf g4) s = false → s.1 ≠ 20 ∧ pu_safe (pv_F w w2 ch ph) (fun b => b < B) s) := by
    refine ⟨?_, ?_, ?_, ?_⟩
    · intro b hb hk
      have h9 := hek b hb hk
      unfold pv_wf
      rw [decide_eq_true_iff]
      exact hmono _ ((c4 b hb).1 h9)
    · intro b hb s hs hk
      obtain ⟨a, ha, rfl⟩ := List.mem_map.mp hs
      have hcs := (c4 b hb).2.1 a ha
      have huu : pv_uu w2 g3 a → (pu_ul (w2 2 a) = true → pv_wf g4 (w2 4 a) = true) ∧ (pu_ur (w2 2 a) = true → pv_wf g4 (w2 5 a) = true) := by
        intro h
        unfold pv_wf
        exact ⟨fun h1 => decide_eq_true (hmono _ (h.1 h1)), fun h1 => decide_eq_true (hmono _ (h.2 h1))⟩
      show (pu_ul (w2 2 a) = true → pv_wf g4 (w2 4 a) = true) ∧ (pu_ur (w2 2 a) = true → pv_wf g4 (w2 5 a) = true)
      have hkd := hS.2.2.2.1 b hb _ hs
      by_cases hg : pu_gk (w2 2 a) = true
      · have h0 := (hgk b hb a ha).mp hg
        have hw4 : g4 7 (nn (w2 3 a)) = 0 := by
          have hk : (!pu_gk (w2 2 a) || decide (g4 7 (nn (w2 3 a)) = 0)) = true := hk
          rw [hg] at hk
          simpa using hk
        rcases d5 _ hw4 with h3 | ⟨b3, a4, h4, h5, h6, h7⟩
        · exact huu (hcs.2.2 h0 h3)
        · have := pv_uniq hS hgk hb h4 ha h5 h0 (hcg b3 h4 a4 h5 h6) h7
          subst this
          rw [h6]
          exact ⟨fun c => absurd c (by decide), fun c => absurd c (by decide)⟩
      · rcases hkd with h | h | h
        · exact absurd h hg
        · exact huu (hcs.1 (Or.inl h))
        · exact huu (hcs.1 (Or.inr (Or.inl h)))
    · intro b c z hb hsc hz hwz
      have hc : c < B := hS.2.1.1 b c hb hsc
      obtain ⟨a, ha, rfl⟩ := List.mem_map.mp hz
      obtain ⟨j, j1, j2, j3⟩ := hw.2.2.2.2.1 c b hc hb (hsu b c hb hsc)
      have hwz : pv_wf g4 (w 19 a) = true := hwz
      have hw4 : g4 7 (nn (w 19 a)) = 0 := of_decide_eq_true hwz
      rcases d5 _ hw4 with h3 | ⟨b3, a4, h4, h5, h6, h7⟩
      · have h8 := (c4 c hc).2.2 a ha h3 j j1 j2
        rw [j3, pu_nn (by omega)] at h8
        exact decide_eq_true (hmono _ h8)
      · exact (pv_uniq_p hS hgk hc h4 ha h5 (pv_ixn (hix c hc a ha)).1 (hcg b3 h4 a4 h5 h6) h7).elim
    · intro b hb s hs hk
      obtain ⟨a, ha, rfl⟩ := List.mem_map.mp hs
      have hk : (!pu_gk (w2 2 a) || decide (g4 7 (nn (w2 3 a)) = 0)) = false := hk
      have hk2 : pu_gk (w2 2 a) = true ∧ g4 7 (nn (w2 3 a)) ≠ 0 := by simpa using hk
      have h0 := (hgk b hb a ha).mp hk2.1
      refine ⟨fun h20 => hk2.2 (d4 b hb a ha h20), fun h45 => ?_⟩
      have hm : pv_mf g3 w2 a = false := by
        by_cases h9 : pv_mf g3 w2 a = true
        · exact absurd (hmono _ (((c4 b hb).2.1 a ha).2.1 h0 h9)) hk2.2
        · simpa using h9
      unfold pv_mf at hm
      rw [decide_eq_false_iff_not] at hm
      have h45 : w2 2 a = 4 ∨ w2 2 a = 5 := h45
      have hm2 : ¬ g3 2 (nn (w2 5 a)) < 0 ∧ w2 2 (nn (g3 2 (nn (w2 5 a)))) = 0 ∧ w2 4 (nn (g3 2 (nn (w2 5 a)))) ≠ 0 := by
        refine Classical.byContradiction fun c => hm ⟨h45, c⟩
      have hx := (hrg b hb a ha).2 (pv_ur45 h45)
      obtain ⟨b5, a5, q1, q2, q3, q4⟩ := hgiv3 _ (pv_ixn hx).2 hm2.1
      have ha5 := hd.1 b5 q1 a5 q2
      rw [q3, pu_nn (by omega)] at hm2
      refine ⟨b5, pv_S w2 a5, q1, List.mem_map_of_mem q2, hm2.2.1, ?_, hm2.2.2⟩
      show w2 3 a5 = w2 5 a
      rw [q4]
      exact (pu_of (pv_ixn hx).1).symm
  have hbb : ∀ b', b' < B → pv_F w' w2' (fun b => (ch b).filter (pv_ks (g4 7) w2)) (fun b => (ph b).filter (pv_kp (g4 7) w)) b' = pu_dropF (pv_F w w2 ch ph) (pv_wf g4) b' := by
    intro b' hb
    rw [hFeq]
    unfold pu_dropF
    have : (pv_F w w2 ch ph b').2.1.filter (pu_kp (pv_wf g4)) = ((ch b').filter (pv_ks (g4 7) w2)).map (pv_S w2) := by
      show ((ch b').map (pv_S w2)).filter _ = _
      rw [pv_flt_map]
      refine congrArg _ (List.filter_congr fun a ha => ?_)
      have hk := hgk b' hb a ha
      unfold pu_kp pv_wf pv_ks
      show (!pu_gk (w2 2 a) || decide (g4 7 (nn (w2 3 a)) = 0)) = _
      by_cases h0 : w2 3 a < 0
      · have : pu_gk (w2 2 a) = false := by
          by_cases h9 : pu_gk (w2 2 a) = true
          · exact absurd h0 (hk.mp h9)
          · simpa using h9
        simp [this, h0]
      · simp [hk.mpr h0, h0]
    rw [this]
  refine ⟨pv_cvn w2 ch ph B - pv_cvn w2' (fun b => (ch b).filter (pv_ks (g4 7) w2)) (fun b => (ph b).filter (pv_kp (g4 7) w)) B, g4, w', w2', _, _, ?_, by omega, hok', e4, e5, hsc, hsp, ⟨pu_dropF (pv_F w w2 ch ph) (pv_wf g4), pu_drop_ssa hS hcond.1 hcond.2.1 hcond.2.2.1, hbb⟩, ?_⟩
  · unfold fX5_dropUnwanted
    rw [a1, Option.bind_some, b1, Option.bind_some]
    have c1 : fX5_dropUnwanted_L17 n w n2 w2 NF 1 0 (srw g1 7 f1) = some g3 := c1
    rw [c1, Option.bind_some, d1, Option.bind_some, pv_countValues hok, Option.bind_some, e1, Option.bind_some, pv_countValues hok', Option.bind_some, pv_sub hle]
  · intro call ar k e m q r hrun
    have hdr := pu_drop_run hS (W := pv_wf g4) (call := call) (ar := ar) hcond.1 hcond.2.1 hcond.2.2.1 hcond.2.2.2 hrun
    -- the two flows are alike on all blocks that are there
    refine pu_sim (F := pu_dropF (pv_F w w2 ch ph) (pv_wf g4)) (fun b p σ b' p' σ' => b < B ∧ b' = b ∧ p' = p ∧ σ' = σ) (fun _ _ _ _ _ _ h => congrArg (fun s => s.2.2) h.2.2.2) ?_ k 0 0 _ 0 0 _ r ⟨hB0, rfl, rfl, rfl⟩ hdr
    rintro b p σ b' p' σ' o ⟨hb, rfl, rfl, rfl⟩ ho
    have hblk : pu_blk (pv_F w' w2' (fun b => (ch b).filter (pv_ks (g4 7) w2)) (fun b => (ph b).filter (pv_kp (g4 7) w))) call ar b' p' σ' = some o := by
      unfold pu_blk at ho ⊢
      rw [hbb b' hb]
      exact ho
    cases o with
    | inl z => exact Or.inl ⟨z, rfl, hblk⟩
    | inr x =>
      obtain ⟨c, τ⟩ := x
      refine Or.inr ⟨c, τ, c, τ, rfl, hblk, ?_, rfl, rfl, rfl⟩
      unfold pu_blk at ho
      obtain ⟨o1, _, ho⟩ := bnd9 ho
      cases o1 with
      | inl z => cases ho
      | inr τ1 =>
        have ho : pu_end (pu_dropF (pv_F w w2 ch ph) (pv_wf g4) b').2.2 τ1 = .inr (c, τ) := Option.some.inj ho
        exact hS.2.1.1 b' c hb (pu_end_sc ho).1
end DD
