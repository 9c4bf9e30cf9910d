/-! pure side, the maker 40: what make leaves is in shape and does what the text does -/
section MF
variable {P : ST} {f a0 a1 Vn fs R0 B N : Nat} {A : Nat → Nat → Prop} {po : Nat → Int32} {fo ot pj : Nat → Nat} {k9 v10 x9 : ST} {l5 l7 : SL} {n7 m9 : Nat → Nat} {Ph : Nat → Int64} {ph ch : Nat → List Nat} {wb : Nat → Nat} {S : Nat → Nat → Int32}
def pt_vl (Ph : Nat → Int64) (Vn b : Nat) : List Nat := (List.range Vn).filter (fun u => pv_bt (Ph u) b)
noncomputable def pt_Wf (l7 : SL) (v10 : ST) (B Vn : Nat) (Ph : Nat → Int64) (v b : Nat) : Prop := pv_bt (Classical.epsilon fun W => pt_vf l7 v10 B v W (Ph v)) b = true
theorem pv_make_MM (hfn : pt_fn P f a0 a1 Vn fs A) (hmr : pt_mr P a0 a1 Vn B N po fo ot pj k9 v10 x9 l5 l7 n7 m9 R0 Ph ph ch wb S) :
    pt_MM P v10 a0 a1 Vn B A (pt_Wf l7 v10 B Vn Ph) po (k9 4) fo ot pj (fun c => nn (v10 12 c)) (pt_nb P fo ot ph) (pv_D B l5) (pt_vl Ph Vn) S (fun x v => k9 20 (x * 320 + v)) (pv_F v10 x9 ch ph) := by
  obtain ⟨⟨hf, h5, h6, h7, h3, hVn⟩, htx, hla, hld, hLa, ⟨hcnt, hK, hval⟩, hQc, hcp⟩ := hfn
  obtain ⟨⟨⟨hB, hB0⟩, hbk, hsv, hwys, h00, hone⟩, hdom, ⟨hbit, hbrd, hvf⟩, ⟨hrm, hM, hphc, hdis, hpv⟩, ⟨hLm, hnb, hnum, hgk⟩, ⟨hss, hN, hbf⟩, htf, hlo⟩ := hmr
  have hsw : pt_sw (pv_F v10 x9 ch ph) v10 B := pt_sw_of hbk hB hsv (fun b _ => ⟨rfl, rfl, rfl⟩)
  obtain ⟨hdd, hdb, _, hdm⟩ := hdom _ hsw
  -- the phis' variables
  have hvl : ∀ b, b < B → pt_vl Ph Vn b = (ph b).map (fun a => nn (k9 19 a)) := by
    intro b hb
    have h9 : (ph b).map (k9 19) = (pt_vl Ph Vn b).map pu_I := hpv b hb
    have h8 := congrArg (List.map nn) h9
    rw [List.map_map, List.map_map] at h8
    have h7' : (pt_vl Ph Vn b).map (nn ∘ pu_I) = pt_vl Ph Vn b := by
      have h6' : (pt_vl Ph Vn b).map (nn ∘ pu_I) = (pt_vl Ph Vn b).map id := List.map_congr_left fun u hu => by
        have : u < Vn := List.mem_range.mp (List.mem_filter.mp hu).1
        exact pu_nn (by omega)
      rw [h6', List.map_id]
    rw [h7'] at h8
    exact h8.symm
  have hva : ∀ b, b < B → ∀ a, a ∈ ph b → ∃ u, u < Vn ∧ k9 19 a = pu_I u ∧ u ∈ pt_vl Ph Vn b := by
    intro b hb a ha
    have h9 : k9 19 a ∈ (ph b).map (k9 19) := List.mem_map_of_mem ha
    rw [hpv b hb] at h9
    obtain ⟨u, u1, u2⟩ := List.mem_map.mp h9
    have : u < Vn := List.mem_range.mp (List.mem_filter.mp u1).1
    exact ⟨u, this, u2.symm, u1⟩
  have hSm : ∀ b, b < B → (pt_vl Ph Vn b).map (S b) = (ph b).map (v10 19) := by
    intro b hb
    rw [hvl b hb, List.map_map]
    exact List.map_congr_left fun a ha => (hbf b hb).1.1 a ha
  have hlen : ∀ b, b < B → (pt_vl Ph Vn b).length = (ph b).length := fun b hb => by rw [hvl b hb, List.length_map]
  have hWs : ∀ u, u < Vn → ∃ W, pt_vf l7 v10 B u W (Ph u) ∧ ∀ b, (pt_Wf l7 v10 B Vn Ph u b ↔ pv_bt W b = true) := fun u hu =>
    ⟨_, Classical.epsilon_spec (hvf u hu), fun b => Iff.rfl⟩
  have hloc : ∀ b j, b < B → fo b ≤ j → j < ot b → k9 2 j = pt_lor P a0 j ∧ k9 3 j = pt_ror P a0 j := fun b j hb j1 j2 => by
    obtain ⟨ja, ja1, _⟩ := pt_inn hbk hb j1 j2
    exact hlo j ja ja1
  have hfo : ∀ b, b < B → fo b ≤ ot b := by
    intro b hb
    by_cases hn : po b < 0
    · obtain ⟨e1, e2, _⟩ := hbk.2.1 b hb hn
      rw [e1, e2]
      exact Nat.le_refl _
    · have h9 := (pt_psn_le hbk hB hb).2 hn
      unfold pt_psn at h9
      rw [if_neg hn] at h9
      exact h9
  have hpp : pt_pp P v10 B Vn fo ot (pv_D B l5) (pt_Wf l7 v10 B Vn Ph) (pt_vl Ph Vn) := by
    refine ⟨fun b hb => ⟨List.Pairwise.sublist List.filter_sublist List.nodup_range, fun v hv => ?_⟩, fun d b p v hd hb hp hvn hor he hD hbr hW => ?_, ?_, fun v b hvn hb hu => ?_, fun v b c hvn hb hc he hW hna => ?_, fun v hvn hW => ?_⟩
    · obtain ⟨v1, v2⟩ := List.mem_filter.mp hv
      have v1 := List.mem_range.mp v1
      obtain ⟨W, hW, hWi⟩ := hWs v v1
      exact ⟨v1, (hWi b).mpr (hW.2.2.2.1 b v2).1⟩
    · obtain ⟨W, hW9, hWi⟩ := hWs v hvn
      have hbrd9 : pv_bt (l7 18 d) b = true := (hbrd d hd b (by omega)).mpr ⟨hb, p, hp, he, (hdb p d hp hd).mpr hD, hbr.imp id fun h h9 => h ((hdb b d hb hd).mp h9)⟩
      have h9 := hW9.2.2.2.2 d b hd (hor.imp (fun h => ((hbit v (by omega) d (by omega)).1).mpr ⟨hd, h⟩) (fun h => by
        have h8 := List.mem_filter.mp (show v ∈ (List.range Vn).filter (fun u => pv_bt (Ph u) d) from h)
        exact h8.2)) hbrd9 ((hWi b).mp hW)
      exact List.mem_filter.mpr ⟨List.mem_range.mpr hvn, h9⟩
    · cases hz : pt_vl Ph Vn 0 with
      | nil => rfl
      | cons v r =>
        exfalso
        have hv : v ∈ pt_vl Ph Vn 0 := by rw [hz]; exact List.mem_cons_self
        obtain ⟨v1, v2⟩ := List.mem_filter.mp hv
        obtain ⟨W, hW, _⟩ := hWs v (List.mem_range.mp v1)
        obtain ⟨_, d, d1, d2⟩ := hW.2.2.2.1 0 v2
        obtain ⟨_, p, p1, p2, _⟩ := (hbrd d d1 0 (by decide)).mp d2
        exact hdd.2.2.2.2 p p1 p2
    · obtain ⟨W, hW, hWi⟩ := hWs v hvn
      exact (hWi b).mpr (hW.2.1.1 b hb (((hbit v (by omega) b (by omega)).2).mpr ⟨hb, hu⟩))
    · obtain ⟨W, hW9, hWi⟩ := hWs v hvn
      exact (hWi b).mpr (hW9.2.1.2 b c hb he ((hWi c).mp hW) fun h => hna (((hbit v (by omega) b (by omega)).1).mp h).2)
    · obtain ⟨W, hW9, hWi⟩ := hWs v hvn
      have h9 := hW9.2.2.1 _ (pt_A_wcl (l := l7) hB hbk htx (v := v) (fun x hx => ⟨((hbit v (by omega) x (by omega)).1).trans ⟨fun h => h.2, fun h => ⟨hx, h⟩⟩, ((hbit v (by omega) x (by omega)).2).trans ⟨fun h => h.2, fun h => ⟨hx, h⟩⟩⟩) hsv) 0 ((hWi 0).mp hW)
      obtain ⟨_, h9⟩ := h9
      unfold pt_psn at h9
      rw [if_neg hbk.2.2.2.1, hbk.2.2.2.2] at h9
      exact htx.2.2.2.1.1 v h9
  have hvv : pt_vv P a0 B Vn fo ot (fun c => nn (v10 12 c)) (pt_vl Ph Vn) (k9 4) S (fun x v => k9 20 (x * 320 + v)) (pt_nb P fo ot ph) := by
    refine ⟨fun b v hb hvn hno => ?_, fun b v hb hvn => ?_, fun b j u hb j1 j2 j3 j4 hu => ?_, fun b hb => ?_, fun b i hb i1 i2 i3 => ?_, fun b hb => ?_, hnb⟩
    · exact (hbf b hb).1.2.1 v hvn fun a ha e => hno (by
        obtain ⟨u, _, u2, u3⟩ := hva b hb a ha
        rw [u2] at e
        have : u = v := pu_inj (by have : u < Vn := List.mem_range.mp (List.mem_filter.mp u3).1; omega) (by omega) e
        rw [← this]
        exact u3)
    · show k9 20 (b * 320 + v) = _
      rw [(hbf b hb).1.2.2.1 v (by omega)]
      exact pt_nw_lo (ot b) fun j j1 j2 => (hloc b j hb j1 j2).1
    · rw [(hbf b hb).1.2.2.2.1 j j1 j2 j3, j4, pu_nn (by omega)]
      exact pt_nw_lo j fun i i1 i2 => (hloc b i hb i1 (by omega)).1
    · rw [hSm b hb, hnum b hb, hlen b hb]
    · rw [hgk b i hb i1 i2 i3, hlen b hb]
    · rw [hlen b hb]
      rfl
  have hff : pt_ff P v10 a0 B fo ot (pt_vl Ph Vn) (k9 4) S (fun x v => k9 20 (x * 320 + v)) (pv_F v10 x9 ch ph) := by
    intro b hb
    have htk : ∀ a, a ∈ ph b → ∀ p, p < B → pv_eg v10 p b → v10 21 (a * 60 + p) = k9 20 (p * 320 + nn (k9 19 a)) := by
      intro a ha p hp he
      obtain ⟨j, j1, j2, j3⟩ := hwys.2.2.2.2.1 b p hb hp he
      have h9 := htf b hb a ha j j1 j2
      rw [j3, pu_nn (by omega)] at h9
      exact h9
    refine ⟨?_, fun x hx => ?_, ⟨?_, ?_⟩, fun u hu => ?_⟩
    · show ((ph b).map (pv_P v10)).map Prod.fst = _
      rw [List.map_map, hSm b hb]
      rfl
    · obtain ⟨a, ha, rfl⟩ := List.mem_map.mp hx
      obtain ⟨u, u1, u2, u3⟩ := hva b hb a ha
      have hun : nn (k9 19 a) = u := by rw [u2, pu_nn (by omega)]
      refine ⟨u, u3, ?_, fun p hp he => ?_⟩
      · show v10 19 a = S b u
        rw [← (hbf b hb).1.1 a ha, hun]
      · show v10 21 (a * 60 + p) = k9 20 (p * 320 + u)
        rw [htk a ha p hp he, hun]
    · show (ch b).map (pv_S x9) = _
      rw [(hbf b hb).2]
      exact pt_sl_lo (ot b) fun j j1 j2 => hloc b j hb j1 j2
    · show (v10 8 b, v10 9 b, v10 10 b, v10 11 b) = _
      rw [(hbf b hb).1.2.2.2.2, pt_ev_lo (ot b) fun j j1 j2 => (hloc b j hb j1 j2).1]
    · rw [hvl b hb] at hu
      obtain ⟨a, ha, rfl⟩ := List.mem_map.mp hu
      refine ⟨pv_P v10 a, List.mem_map_of_mem ha, ?_, fun p hp he => htk a ha p hp he⟩
      show v10 19 a = S b (nn (k9 19 a))
      exact ((hbf b hb).1.1 a ha).symm
  exact ⟨⟨hB, hB0, h3, (by omega)⟩, hbk, htx, hdd, hpp, hvv, hff, hfo, pt_ssa hB hB0 h3 (by omega) hbk htx hdd hpp hvv hff hfo⟩
theorem pv_make_run (hfn : pt_fn P f a0 a1 Vn fs A) (hmr : pt_mr P a0 a1 Vn B N po fo ot pj k9 v10 x9 l5 l7 n7 m9 R0 Ph ph ch wb S) {call : pu_Call} {ar : List Int32} {k : Nat} {m : pu_M} {e : pu_E} {cl : Nat → Int32} {r : pu_Res} (hr : px_run P call ar k a0 [] cl m = some r) :
    pu_run (pv_F v10 x9 ch ph) call ar (4 * k + 2) 0 0 (e, m, []) = some r := by
  have hM := pv_make_MM hfn hmr
  obtain ⟨⟨hB, hB0, h3, hVn⟩, hbk, htx, hd, hp, _⟩ := id hM
  have h0 : fo 0 = a0 := hbk.2.2.2.2
  have hps : pt_psn po v10 fo 0 = a0 := by
    unfold pt_psn
    rw [if_neg hbk.2.2.2.1]
    exact h0
  refine (px_sim hM hfn.2.2.2.2.2.2.1 hfn.2.2.2.2.1 k 0 0 e m [] cl hB0 hbk.2.2.2.1 ⟨?_, fun v hvn hW => absurd hW (hp.2.2.2.2.2 v hvn)⟩ (by rw [h0]; exact hr)).1
  rw [hps, pt_T_a P a0 a0 (Nat.le_refl _)]
  rfl
end MF
