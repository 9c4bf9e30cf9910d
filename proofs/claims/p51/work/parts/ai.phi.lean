/-! pure side, the maker 17: the phis of one variable -/
def pt_bn (V : Int64) : Nat → Nat
  | 0 => 0
  | b + 1 => pt_bn V b + (if pv_bt V b = true then 1 else 0)
/-- each block's phis, by their variables -/
def pt_pv (B : Nat) (w19 : Nat → Int32) (ph : Nat → List Nat) (Ph : Nat → Int64) (m : Nat → Nat) : Prop := ∀ b, b < B → (ph b).map w19 = ((List.range (m b)).filter (fun u => pv_bt (Ph u) b)).map pu_I
section P1
variable {B R c v : Nat} {n : Nat → Nat} {w fw : ST} {ph : Nat → List Nat} {Ph : Nat → Int64}
theorem pt_bn_mono (V : Int64) {i j : Nat} (h : i ≤ j) : pt_bn V i ≤ pt_bn V j := by
  induction j with
  | zero => rw [show i = 0 by omega]; exact Nat.le_refl _
  | succ j ih =>
    by_cases e : i = j + 1
    · rw [e]; exact Nat.le_refl _
    · exact Nat.le_trans (ih (by omega)) (Nat.le_add_right _ _)
/-- sizes of the rows of phis, with c of them -/
def pt_rm (n : Nat → Nat) (c : Nat) : Prop := ∃ R, pt_pn n R ∧ c ≤ R ∧ R ≤ 375
theorem pv_phis115 (hB : B ≤ 60) (hv : v < 320) (V : Int64) {n0 : Nat → Nat} {w0 fw0 : ST} {c0 : Nat} (hw0 : fw0 0 0 = pu_I B) (hc0 : c0 + pt_bn V B ≤ 250) (hPV : Ph v = V)
    (h17 : fw0 0 17 = pu_I c0) (hrm : pt_rm n0 c0) (hph : pv_phc B fw0 ph) (hd : pv_dis B c0 ph) (hpv : pt_pv B (w0 19) ph Ph (fun _ => v)) :
    ∃ w' fw' n' ph', fX4_placePhis_L115 (pu_I v) V NF 0 w0 fw0 n0 = some (Sum.inr (w', fw', n')) ∧ fw' 0 17 = pu_I (c0 + pt_bn V B) ∧ (∀ i, i ≠ 17 → fw' 0 i = fw0 0 i) ∧ pt_rm n' (c0 + pt_bn V B) ∧ pv_phc B fw' ph' ∧ pv_dis B (c0 + pt_bn V B) ph' ∧ pt_pv B (w' 19) ph' Ph (fun _ => v + 1) ∧
      (∀ r, r ≠ 0 → r ≠ 6 → r ≠ 7 → r ≠ 19 → r ≠ 20 → r ≠ 21 → fw' r = fw0 r) ∧ (∀ r, r ≠ 19 → w' r = w0 r) ∧ (∀ r, r ≠ 19 → r ≠ 20 → r ≠ 21 → n' r = n0 r) := by
  obtain ⟨t, e1, w', fw', n', ph', rfl, t1, t2, t3, t4, t5, t6, t7, t8, t9⟩ := pv_for (G := fun k b (s : ST × ST × (Nat → Nat)) => fX4_placePhis_L115 (pu_I v) V k b s.1 s.2.1 s.2.2) (hi := B)
    (Inv := fun b s => ∃ ph', s.2.1 0 17 = pu_I (c0 + pt_bn V b) ∧ (∀ i, i ≠ 17 → s.2.1 0 i = fw0 0 i) ∧ pt_rm s.2.2 (c0 + pt_bn V b) ∧ pv_phc B s.2.1 ph' ∧ pv_dis B (c0 + pt_bn V b) ph' ∧ pt_pv B (s.1 19) ph' Ph (fun x => if x < b then v + 1 else v) ∧
      (∀ r, r ≠ 0 → r ≠ 6 → r ≠ 7 → r ≠ 19 → r ≠ 20 → r ≠ 21 → s.2.1 r = fw0 r) ∧ (∀ r, r ≠ 19 → s.1 r = w0 r) ∧ (∀ r, r ≠ 19 → r ≠ 20 → r ≠ 21 → s.2.2 r = n0 r))
    (Q := fun t => ∃ w' fw' n' ph', t = Sum.inr (w', fw', n') ∧ fw' 0 17 = pu_I (c0 + pt_bn V B) ∧ (∀ i, i ≠ 17 → fw' 0 i = fw0 0 i) ∧ pt_rm n' (c0 + pt_bn V B) ∧ pv_phc B fw' ph' ∧ pv_dis B (c0 + pt_bn V B) ph' ∧ pt_pv B (w' 19) ph' Ph (fun _ => v + 1) ∧
      (∀ r, r ≠ 0 → r ≠ 6 → r ≠ 7 → r ≠ 19 → r ≠ 20 → r ≠ 21 → fw' r = fw0 r) ∧ (∀ r, r ≠ 19 → w' r = w0 r) ∧ (∀ r, r ≠ 19 → r ≠ 20 → r ≠ 21 → n' r = n0 r))
    (by
      rintro k b ⟨w1, f1, n1⟩ hb ⟨ph1, s1, s2, s3, s4, s5, s6, s7, s8, s9⟩
      have s1 : f1 0 17 = pu_I (c0 + pt_bn V b) := s1
      have s2 : ∀ i, i ≠ 17 → f1 0 i = fw0 0 i := s2
      have s3 : pt_rm n1 (c0 + pt_bn V b) := s3
      have s4 : pv_phc B f1 ph1 := s4
      have s6 : pt_pv B (w1 19) ph1 Ph (fun x => if x < b then v + 1 else v) := s6
      have s7 : ∀ r, r ≠ 0 → r ≠ 6 → r ≠ 7 → r ≠ 19 → r ≠ 20 → r ≠ 21 → f1 r = fw0 r := s7
      have s8 : ∀ r, r ≠ 19 → w1 r = w0 r := s8
      have s9 : ∀ r, r ≠ 19 → r ≠ 20 → r ≠ 21 → n1 r = n0 r := s9
      have hmo := pt_bn_mono V (show b + 1 ≤ B by omega)
      have hbs : pt_bn V (b + 1) = pt_bn V b + (if pv_bt V b = true then 1 else 0) := rfl
      have h00 : f1 0 0 = pu_I B := by rw [s2 0 (by decide)]; exact hw0
      have hstart : fX4_placePhis_L115 (pu_I v) V (k + 1) (pu_I b) w1 f1 n1 = (if pv_b (pv_bt V b) = 0 then fX4_placePhis_L115 (pu_I v) V k (pu_I (b + 1)) w1 f1 n1 else (if (f1 0 17) < 250 then ((fX1_addPhi n1 f1 (pu_I b) (-1)).bind fun (o_17 : Int32 × ST × (Nat → Nat)) => (fX4_placePhis_G157_25 (fX4_placePhis_L115 (pu_I v) V k) (pu_I v) (pu_I b) w1 o_17)) else some (Sum.inl (0, w1, f1, n1)))) := by
        show (if (f1 0 0) ≤ pu_I b then some (Sum.inr (w1, f1, n1)) else ((fX11_holds V (pu_I b)).bind fun (o_13 : Int32) => (if o_13 = 0 then (fX4_placePhis_J159 (fX4_placePhis_L115 (pu_I v) V k) (pu_I b) w1 f1 n1) else _))) = _
        rw [h00, if_neg (by rw [pu_le (by omega) (by omega)]; omega), pv_holds (by omega), Option.bind_some]
        unfold fX4_placePhis_J159
        rw [pu_su]
      cases hV : pv_bt V b with
      | false =>
        rw [hV, if_pos (show pv_b false = 0 by decide)] at hstart
        rw [hV, if_neg (by decide), Nat.add_zero] at hbs
        refine ⟨(w1, f1, n1), hstart, ph1, by rw [hbs]; exact s1, s2, by rw [hbs]; exact s3, s4, by rw [hbs]; exact s5, fun x hx => ?_, s7, s8, s9⟩
        have h9 := s6 x hx
        show (ph1 x).map (w1 19) = ((List.range (if x < b + 1 then v + 1 else v)).filter (fun u => pv_bt (Ph u) x)).map pu_I
        have h9 : (ph1 x).map (w1 19) = ((List.range (if x < b then v + 1 else v)).filter (fun u => pv_bt (Ph u) x)).map pu_I := h9
        by_cases e : x = b
        · rw [e, if_neg (Nat.lt_irrefl b)] at h9
          rw [e, if_pos (Nat.lt_succ_self b), List.range_succ, List.filter_append, h9]
          have : [v].filter (fun u => pv_bt (Ph u) b) = [] := by
            rw [List.filter_cons, hPV, hV]
            rfl
          rw [this, List.append_nil]
        · by_cases e2 : x < b
          · rw [if_pos e2] at h9
            rw [if_pos (by omega), h9]
          · rw [if_neg e2] at h9
            rw [if_neg (by omega), h9]
      | true =>
        rw [hV, if_neg (show ¬ pv_b true = 0 by decide)] at hstart
        rw [hV, if_pos rfl] at hbs
        obtain ⟨R, r1, r2, r3⟩ := s3
        obtain ⟨f2, n2, R2, q1, q2, q3, q4, q5, q6, q7, q8, q9, q10, q11, q12, q13⟩ := pv_addPhi (n := n1) hB s1 (by omega) r1 r2 (by omega) s4 s5 hb (-1)
        rw [s1, if_pos (show pu_I (c0 + pt_bn V b) < (250 : Int32) from (pu_lt (b := 250) (by omega) (by decide)).mpr (by omega)), q1, Option.bind_some] at hstart
        unfold fX4_placePhis_G157_25 fX4_placePhis_J159 at hstart
        rw [if_pos ((pu_ix (by omega)).mpr (by omega))] at hstart
        simp only [lt9] at hstart
        rw [pu_nn (by omega), pu_su] at hstart
        have hid : c0 + pt_bn V (b + 1) = c0 + pt_bn V b + 1 := by omega
        refine ⟨(upw w1 19 (c0 + pt_bn V b) (pu_I v), f2, n2), hstart, pv_up ph1 b (ph1 b ++ [c0 + pt_bn V b]), by rw [hid]; exact q2, fun i hi => by rw [show (upw w1 19 (c0 + pt_bn V b) (pu_I v), f2, n2).2.1 0 i = f2 0 i from rfl, q3 i hi, s2 i hi], by rw [hid]; exact ⟨R2, q9, q10, by rcases q11 with h | h <;> omega⟩, q6, by rw [hid]; exact q7, fun x hx => ?_, fun r r0 r6 r7 r19 r20 r21 => by rw [show (upw w1 19 (c0 + pt_bn V b) (pu_I v), f2, n2).2.1 r = f2 r from rfl, q8 r r0 r6 r7 r19 r20 r21, s7 r r0 r6 r7 r19 r20 r21], fun r hr => by rw [show (upw w1 19 (c0 + pt_bn V b) (pu_I v), f2, n2).1 r = upw w1 19 (c0 + pt_bn V b) (pu_I v) r from rfl, pv_upw_n hr, s8 r hr], fun r r19 r20 r21 => by rw [show (upw w1 19 (c0 + pt_bn V b) (pu_I v), f2, n2).2.2 r = n2 r from rfl, q12 r r19 r20 r21, s9 r r19 r20 r21]⟩
        have hold : ∀ a, a < c0 + pt_bn V b → upw w1 19 (c0 + pt_bn V b) (pu_I v) 19 a = w1 19 a := fun a ha => by rw [pv_upw, if_neg fun h => by omega]
        have hmapo : (ph1 x).map (upw w1 19 (c0 + pt_bn V b) (pu_I v) 19) = (ph1 x).map (w1 19) := List.map_congr_left fun a ha => hold a (s5.1 x hx a ha)
        have h9 : (ph1 x).map (w1 19) = ((List.range (if x < b then v + 1 else v)).filter (fun u => pv_bt (Ph u) x)).map pu_I := s6 x hx
        show (pv_up ph1 b (ph1 b ++ [c0 + pt_bn V b]) x).map (upw w1 19 (c0 + pt_bn V b) (pu_I v) 19) = ((List.range (if x < b + 1 then v + 1 else v)).filter (fun u => pv_bt (Ph u) x)).map pu_I
        by_cases e : x = b
        · subst e
          rw [if_neg (Nat.lt_irrefl x)] at h9
          rw [pv_up_s, if_pos (Nat.lt_succ_self x), List.range_succ, List.filter_append, List.map_append, List.map_append, hmapo, h9]
          have : [v].filter (fun u => pv_bt (Ph u) x) = [v] := by
            rw [List.filter_cons, hPV, hV]
            rfl
          rw [this]
          show _ ++ [upw w1 19 (c0 + pt_bn V x) (pu_I v) 19 (c0 + pt_bn V x)] = _
          rw [pv_upw, if_pos ⟨rfl, rfl⟩]
          rfl
        · rw [pv_up_n e, hmapo]
          by_cases e2 : x < b
          · rw [if_pos e2] at h9
            rw [if_pos (by omega), h9]
          · rw [if_neg e2] at h9
            rw [if_neg (by omega), h9])
    (by
      rintro k ⟨w1, f1, n1⟩ ⟨ph1, s1, s2, s3, s4, s5, s6, s7, s8, s9⟩
      refine ⟨Sum.inr (w1, f1, n1), ?_, w1, f1, n1, ph1, rfl, s1, s2, s3, s4, s5, fun x hx => ?_, s7, s8, s9⟩
      · show (if (f1 0 0) ≤ pu_I B then some (Sum.inr (w1, f1, n1)) else _) = _
        have h00 : f1 0 0 = fw0 0 0 := s2 0 (by decide)
        rw [h00, hw0, if_pos (Int32.le_refl _)]
      · have h9 : (ph1 x).map (w1 19) = ((List.range (if x < B then v + 1 else v)).filter (fun u => pv_bt (Ph u) x)).map pu_I := s6 x hx
        rw [if_pos hx] at h9
        exact h9) B 0 NF (w0, fw0, n0) (by omega) (by have := pv_NF; omega) ⟨ph, h17, fun i _ => rfl, hrm, hph, hd, fun x hx => by
      show (ph x).map (w0 19) = ((List.range (if x < 0 then v + 1 else v)).filter (fun u => pv_bt (Ph u) x)).map pu_I
      rw [if_neg (Nat.not_lt_zero x)]
      exact hpv x hx, fun r _ _ _ _ _ _ => rfl, fun r _ => rfl, fun r _ _ _ => rfl⟩
  exact ⟨w', fw', n', ph', e1, t1, t2, t3, t4, t5, t6, t7, t8, t9⟩
end P1
