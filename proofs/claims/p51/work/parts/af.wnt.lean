/-! pure side, the maker 14: where a variable is wanted, whole -/
section WB
variable {l : SL} {w : ST} {B v : Nat}
theorem pv_wantedAt (hB0 : 0 < B) (hB : B ≤ 60) (hw0 : w 0 0 = pu_I B) (hsv : pv_sv B w) (hv : v < 320) (hu : ∀ x, x < 64 → pv_bt (l 16 v) x = true → x < B) :
    ∃ W, fX4_wantedAt l w (pu_I v) = some W ∧ (∀ i, pv_bt W i = true → i < B) ∧ pt_wcl l w B v (fun b => pv_bt W b = true) ∧ (∀ X : Nat → Prop, pt_wcl l w B v X → ∀ i, pv_bt W i = true → X i) := by
  have hvx : ixb (pu_I v) 320 = true := (pu_ix (by omega)).mpr hv
  have hvn : nn (pu_I v) = v := pu_nn (by omega)
  have hu2 : ∀ i, pv_bt (l 16 v) i = true → i < B := fun i hi => by
    by_cases h : i < 64
    · exact hu i h hi
    · rw [pv_bt_ge (by omega)] at hi; cases hi
  have h18 : ∀ y : Int32, fX4_wantedAt_J18 l w (pu_I v) y = ((fX4_wantedAt_L23 l w (pu_I v) NF (l 16 v) y 0).bind fun (o23 : Int64) => some o23) := fun y => by
    unfold fX4_wantedAt_J18
    rw [hvn]
  by_cases h0 : l 16 v = 0
  · refine ⟨0, ?_, fun i hi => ?_, ⟨fun b hb h => by rw [h0] at h; exact h, fun b c _ _ h _ => ?_⟩, fun X _ i hi => ?_⟩
    · unfold fX4_wantedAt
      rw [if_pos hvx, hvn, if_pos ((pv_cmp0 _ _).mpr h0), h18, h0]
      rfl
    · rw [pv_bt_0] at hi; cases hi
    · have h : pv_bt 0 c = true := h
      rw [pv_bt_0] at h; cases h
    · rw [pv_bt_0] at hi; cases hi
  · obtain ⟨W, e1, ⟨e2, e3, e4⟩, e5⟩ := pt_fix (pass := fun W => fX4_wantedAt_L46 l w (pu_I v) NF W (pu_I B - 1)) (G := fun k W y n => fX4_wantedAt_L23 l w (pu_I v) k W y n)
      (Inv := fun W => (∀ i, pv_bt W i = true → i < B) ∧ pt_sub (l 16 v) W ∧ (∀ X : Nat → Prop, pt_wcl l w B v X → ∀ i, pv_bt W i = true → X i))
      (fun k W y n => by
        show (if y = 0 then some W else (if 60 < n then some W else ((fX4_wantedAt_L46 l w (pu_I v) NF W ((w 0 0) - 1)).bind fun (o46 : Int64) => (if (lg_cmp o46 W) = 0 then (fX4_wantedAt_J130 (fX4_wantedAt_L23 l w (pu_I v) k) n o46 0) else (fX4_wantedAt_J130 (fX4_wantedAt_L23 l w (pu_I v) k) n o46 1))))) = _
        rw [hw0]
        rfl)
      (fun W ⟨i1, i2, i3⟩ => by
        obtain ⟨W', q1, q2, q3, q4, _⟩ := pv_wanted46 (l := l) (w := w) hB0 hB hsv hv W i1
        exact ⟨W', q1, ⟨q3, fun i hi => q2 i (i2 i hi), fun X hX i hi => q4 X hX (i3 X hX) i hi⟩, q2⟩)
      (fun W ⟨i1, _, _⟩ i hi => by have := i1 i hi; omega) 60 0 NF (l 16 v) ⟨hu2, fun i hi => hi, fun X hX i hi => hX.1 i (hu2 i hi) hi⟩ (by omega) (by omega) (by have := pv_NF; omega)
    obtain ⟨W', q1, q2, q3, q4, q5⟩ := pv_wanted46 (l := l) (w := w) hB0 hB hsv hv W e2
    have hWW : W' = W := by
      rw [e5] at q1
      injection q1 with q1
      exact q1.symm
    rw [hWW] at q5
    refine ⟨W, ?_, e2, ⟨fun b hb h => e3 b h, fun b c hb he hc ha => q5 b c hb he hc ha⟩, e4⟩
    unfold fX4_wantedAt
    have e1 : fX4_wantedAt_L23 l w (pu_I v) NF (l 16 v) 1 0 = some W := e1
    rw [if_pos hvx, hvn, if_neg (fun h => h0 ((pv_cmp0 _ _).mp h)), h18, e1]
    rfl
end WB
