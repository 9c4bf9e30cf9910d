/-! pure side, the allocator 36: registers for all make code -/
section COD
variable {B H K CN : Nat} {F0 : pu_Flow}
theorem pa_fin_code {an0 an n2 n cn : Nat → Nat} {aw fw x9 g c9 : ST} (h : pa_fin F0 B H K CN an0 aw an fw x9 n2 g n) (hCN : CN < 10050) (hw17 : ∀ c, c < 61 → aw 17 c = pu_I (nn (aw 17 c))) (hR : ∃ R, pv_sR cn R ∧ R ≤ 15300) :
    ∃ aw' c' n' Fc W' ln M, fX0_writeCode aw cn c9 fw n2 x9 n g = some (aw', c', n') ∧ pa_ok F0 Fc (fun b => b < B) W' ∧ pu_lay Fc (fun b => b < B) (pv_S c') ln ∧ ln 0 = 0 ∧ (c' 0 0 = pu_I M ∧ M ≤ CN + 120) ∧ (∃ R, pv_sR n' R ∧ M ≤ R ∧ R ≤ 15300) ∧ (∀ r, r ≠ 17 → aw' r = aw r) := by
  obtain ⟨N, V, c1, qs, W', hfl, hnc, hsk, hc1, hV, hN, hrg, hok⟩ := h
  have hB := hfl.1.2.2
  obtain ⟨b1, b2⟩ := pa_ln_bd (x9 := x9) (g := g) (G := pu_roF (pg_F fw x9 qs) (pa_rg g)) hfl.2.2.2.1
  obtain ⟨aw', c', n', ln, e1, e2, e3, e4, e5, e6⟩ := pa_writeCode (w := aw) (g := g) (gn := n) (G := pu_roF (pg_F fw x9 qs) (pa_rg g)) (c9 := c9) (cn := cn) hfl hV (fun b => rfl) hw17 (fun i hi => by have := b1 i hi; omega) (by omega) hR
  exact ⟨aw', c', n', _, W', ln, _, e1, hok, e2, e3, ⟨e4, by omega⟩, e5, e6⟩
end COD
