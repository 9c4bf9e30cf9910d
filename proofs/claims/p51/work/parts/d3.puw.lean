/-! pure side, the allocator 28: putAway whole -/
section PAW
variable {fs na B V N H c0 wd K : Nat} {aw fw x9 w g : ST} {l : SL} {n an n2 : Nat → Nat} {qs : Nat → List Nat} {F0 : pu_Flow} {o : Int32}
theorem pa_kb_bd {c1 : Nat} {wb : ST} (hfl : pg_fl B N V fw x9 n2 qs) (hHV : H ≤ V) (hss : pa_ss B V H c0 c1 wb x9 qs) : pa_kb (pa_Sb wb V) (pa_ns wb) (pa_sl wb) (pa_nm wb) (pg_F fw x9 qs) V B ≤ V + pa_mF H (pg_F fw x9 qs) B := by
  obtain ⟨⟨_, _, hB⟩, ⟨_, hN, hV⟩, _, hd, _⟩ := hfl
  have hS : ∀ x, pa_Sb wb V x = true → pa_hb H x = true := fun x hx => by
    obtain ⟨h, ⟨h1, h2⟩, rfl, _⟩ := pa_Sb_h hss hx
    unfold pa_hb
    rw [pu_nn (by omega)]
    exact decide_eq_true ⟨pu_ge (by omega), h1⟩
  have hcrude := pa_kb3 (S := pa_Sb wb V) (ns := pa_ns wb) (sl := pa_sl wb) (nm := pa_nm wb) (F := pg_F fw x9 qs) (V := V) (M := 8500) B fun b hb => by
    show ((qs b).map (pv_S x9)).length ≤ 8500
    rw [List.length_map]
    have := pv_len N (qs b) (hd.2.1 b hb) (hd.1 b hb)
    omega
  have hmu := pa_kb_mu (ns := pa_ns wb) (sl := pa_sl wb) (nm := pa_nm wb) (F := pg_F fw x9 qs) hS hHV B (by
    have : B * (3 * 8500 + 1) ≤ 60 * (3 * 8500 + 1) := Nat.mul_le_mul_right _ hB
    omega)
  exact Nat.le_trans (Nat.le_add_right _ _) hmu
theorem pa_ss_of (hc0 : c0 + H < 100000) {wb : ST} {d : List Nat} (hcl : pg_cld n w l H V wd K x9 d o g) (hdd : d = (List.range B).flatMap qs) {w9 : ST} (hsi : pa_si H c0 w9 g x9 (fun v => pg_ct x9 v d) d V wb) : ∃ c1, (c0 ≤ c1 ∧ c1 ≤ c0 + H) ∧ wb 0 10 = pu_I c1 ∧ pa_ss B V H c0 c1 wb x9 qs ∧ (∀ r z, r ≠ 13 → r ≠ 14 → ¬ (r = 0 ∧ z = 10) → wb r z = w9 r z) ∧ c1 ≤ c0 + pv_sm (pa_px (fun v => pg_ct x9 v d) g) V ∧ ∀ v, v < V → pg_ct x9 v d ≠ 0 → g 17 v = -1 → wb 13 v ≠ -1 := by
  obtain ⟨m, ⟨m1, m2, m3⟩, I1, I2, I3, I4⟩ := hsi
  refine ⟨c0 + m, ⟨by omega, by omega⟩, I1, ⟨fun v hv h => ?_, fun v hv h b hb a ha he => ?_, fun v hv h1 h2 => ?_, I4⟩, I2, by omega, fun v hv h1 h2 => ?_⟩
  · have hp : pa_pt (fun v => pg_ct x9 v d) g v := by
      rcases I3 v hv with ⟨_, q⟩ | ⟨q, _⟩ | ⟨q, _⟩
      · exact absurd q h
      · exact q
      · exact q
    refine Classical.byContradiction fun hno => ?_
    exact hcl.2.2.2.2.2.1 v (by omega) hv hp.1 hp.2
  · rcases I3 v hv with ⟨_, q⟩ | ⟨_, q1, q2, a0, a1, a2, a3, a4⟩ | ⟨_, q, _, q2, q3⟩
    · rw [h] at q; exact absurd q (by decide)
    · have q1 : pg_ct x9 v d = 1 := q1
      unfold pg_ct at q1
      have e := pg_cp2 d a a0 (by rw [q1]; exact Nat.le_refl _) (by rw [hdd]; exact List.mem_flatMap.mpr ⟨b, List.mem_range.mpr hb, ha⟩) a1 (decide_eq_true he) (decide_eq_true a2)
      rw [e, a4]
      exact ⟨a3, rfl⟩
    · rw [h] at q3
      have hq : ¬ pu_I q < 0 := pu_ge (by omega)
      rw [← q3] at hq
      exact absurd (by decide) hq
  · rcases I3 v hv with ⟨_, q⟩ | ⟨_, _, q, _⟩ | ⟨_, q, q1, q2, q3⟩
    · exact absurd q h1
    · exact absurd q h2
    · exact ⟨q, ⟨q1, q2⟩, q3⟩
  · rcases I3 v hv with ⟨q, _⟩ | ⟨_, _, q, _⟩ | ⟨_, q, _, q2, q3⟩
    · exact absurd ⟨h1, h2⟩ q
    · rw [q]; decide
    · rw [q3]; exact pg_In1 (by omega)
end PAW
