/-! pure side, the maker 15: where phis are placed -/
section PP
variable {l : SL} {w : ST} {B v : Nat}
theorem pv_phis45 (hB : B ≤ 60) (hw0 : w 0 0 = pu_I B) (hv : v < 320) (W V : Int64) (hV : ∀ i, pv_bt V i = true → pv_bt W i = true ∧ ∃ d, d < B ∧ pv_bt (l 18 d) i = true) :
    ∃ V', fX4_placePhis_L45 l w (pu_I v) W NF V 0 = some V' ∧ pt_sub V V' ∧ (∀ i, pv_bt V' i = true → pv_bt W i = true ∧ ∃ d, d < B ∧ pv_bt (l 18 d) i = true) ∧
      (∀ b x, b < B → (pv_bt (l 17 v) b = true ∨ pv_bt V b = true) → pv_bt (l 18 b) x = true → pv_bt W x = true → pv_bt V' x = true) := by
  obtain ⟨t, e1, t1, t2, t3⟩ := pv_for (G := fun k b (s : Int64) => fX4_placePhis_L45 l w (pu_I v) W k s b) (hi := B)
    (Inv := fun k s => pt_sub V s ∧ (∀ i, pv_bt s i = true → pv_bt W i = true ∧ ∃ d, d < B ∧ pv_bt (l 18 d) i = true) ∧ (∀ b x, b < k → (pv_bt (l 17 v) b = true ∨ pv_bt V b = true) → pv_bt (l 18 b) x = true → pv_bt W x = true → pv_bt s x = true))
    (Q := fun s => pt_sub V s ∧ (∀ i, pv_bt s i = true → pv_bt W i = true ∧ ∃ d, d < B ∧ pv_bt (l 18 d) i = true) ∧ (∀ b x, b < B → (pv_bt (l 17 v) b = true ∨ pv_bt V b = true) → pv_bt (l 18 b) x = true → pv_bt W x = true → pv_bt s x = true))
    (by
      rintro k b s hb ⟨i1, i2, i3⟩
      have h60 : ixb (pu_I b) 60 = true := (pu_ix (by omega)).mpr (by omega)
      have hbn : nn (pu_I b) = b := pu_nn (by omega)
      have hform : fX4_placePhis_L45 l w (pu_I v) W (k + 1) s (pu_I b) = (if pv_b (pv_bt (l 17 v ||| s) b) = 0 then fX4_placePhis_L45 l w (pu_I v) W k s (pu_I (b + 1)) else fX4_placePhis_L45 l w (pu_I v) W k (s ||| (l 18 b &&& W)) (pu_I (b + 1))) := by
        show (if (w 0 0) ≤ pu_I b then some s else (if ixb (pu_I v) 320 = true then ((fX11_holds ((l 17 (nn (pu_I v))) ||| s) (pu_I b)).bind fun (o_7 : Int32) => (if o_7 = 0 then (fX4_placePhis_J85 (fX4_placePhis_L45 l w (pu_I v) W k) (pu_I b) s) else (if ixb (pu_I b) 60 = true then (fX4_placePhis_J85 (fX4_placePhis_L45 l w (pu_I v) W k) (pu_I b) (s ||| ((l 18 (nn (pu_I b))) &&& W))) else none))) else none)) = _
        rw [hw0, if_neg (by rw [pu_le (by omega) (by omega)]; omega), if_pos ((pu_ix (by omega)).mpr hv), pu_nn (show v < 2147483648 by omega), pv_holds (by omega), Option.bind_some, if_pos h60, hbn]
        unfold fX4_placePhis_J85
        rw [pu_su]
      cases hc : pv_bt (l 17 v ||| s) b with
      | false =>
        rw [hc, if_pos (show pv_b false = 0 by decide)] at hform
        refine ⟨s, hform, i1, i2, fun b' x h1 h2 h3 h4 => ?_⟩
        by_cases e : b' = b
        · rw [e] at h2
          have : pv_bt (l 17 v ||| s) b = true := by
            rw [pv_bt_or, Bool.or_eq_true]
            exact h2.imp id (i1 b)
          rw [hc] at this
          cases this
        · exact i3 b' x (by omega) h2 h3 h4
      | true =>
        rw [hc, if_neg (show ¬ pv_b true = 0 by decide)] at hform
        have hor : ∀ x, pv_bt (s ||| (l 18 b &&& W)) x = true ↔ pv_bt s x = true ∨ (pv_bt (l 18 b) x = true ∧ pv_bt W x = true) := fun x => by
          rw [pv_bt_or, pv_bt_and, Bool.or_eq_true, Bool.and_eq_true]
        refine ⟨_, hform, fun i hi => (hor i).mpr (Or.inl (i1 i hi)), fun i hi => ?_, fun b' x h1 h2 h3 h4 => ?_⟩
        · rcases (hor i).mp hi with h | h
          · exact i2 i h
          · exact ⟨h.2, b, hb, h.1⟩
        · by_cases e : b' = b
          · rw [e] at h3
            exact (hor x).mpr (Or.inr ⟨h3, h4⟩)
          · exact (hor x).mpr (Or.inl (i3 b' x (by omega) h2 h3 h4)))
    (by
      rintro k s ⟨i1, i2, i3⟩
      refine ⟨s, ?_, i1, i2, i3⟩
      show (if (w 0 0) ≤ pu_I B then some s else _) = _
      rw [hw0, if_pos (Int32.le_refl _)]) B 0 NF V (by omega) (by have := pv_NF; omega) ⟨fun i h => h, hV, fun b x h => absurd h (Nat.not_lt_zero _)⟩
  exact ⟨t, e1, t1, t2, t3⟩
/-- the blocks that get a phi of a variable -/
def pt_ph (l : SL) (B v : Nat) (W V : Int64) : Prop :=
  (∀ i, pv_bt V i = true → pv_bt W i = true ∧ ∃ d, d < B ∧ pv_bt (l 18 d) i = true) ∧ (∀ b x, b < B → (pv_bt (l 17 v) b = true ∨ pv_bt V b = true) → pv_bt (l 18 b) x = true → pv_bt W x = true → pv_bt V x = true)
theorem pv_phis26 (hB : B ≤ 60) (hw0 : w 0 0 = pu_I B) (hv : v < 320) {W : Int64} (hW : ∀ i, pv_bt W i = true → i < B) :
    ∃ V, fX4_placePhis_L26 l w (pu_I v) W NF 0 (if W = 0 then 0 else 1) 0 = some V ∧ pt_ph l B v W V := by
  by_cases h0 : W = 0
  · refine ⟨0, ?_, ⟨fun i hi => (by rw [pv_bt_0] at hi; cases hi), fun b x _ _ _ h => (by rw [h0, pv_bt_0] at h; cases h)⟩⟩
    rw [if_pos h0]
    rfl
  · rw [if_neg h0]
    obtain ⟨V, e1, e2, e3⟩ := pt_fix (pass := fun V => fX4_placePhis_L45 l w (pu_I v) W NF V 0) (G := fun k V y n => fX4_placePhis_L26 l w (pu_I v) W k V y n)
      (Inv := fun V => ∀ i, pv_bt V i = true → pv_bt W i = true ∧ ∃ d, d < B ∧ pv_bt (l 18 d) i = true)
      (fun k V y n => rfl)
      (fun V hI => by
        obtain ⟨V', q1, q2, q3, _⟩ := pv_phis45 (l := l) hB hw0 hv W V hI
        exact ⟨V', q1, q3, q2⟩)
      (fun V hI i hi => by have := hW i (hI i hi).1; omega) 60 0 NF 0 (fun i hi => (by rw [pv_bt_0] at hi; cases hi)) (by omega) (by omega) (by have := pv_NF; omega)
    obtain ⟨V', q1, q2, q3, q4⟩ := pv_phis45 (l := l) hB hw0 hv W V e2
    have hVV : V' = V := by
      rw [e3] at q1
      injection q1 with q1
      exact q1.symm
    rw [hVV] at q4
    exact ⟨V, e1, e2, q4⟩
end PP
