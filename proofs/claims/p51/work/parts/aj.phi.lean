/-! pure side, the maker 18: the phis of all variables -/
/-- what is known of a variable: where it is wanted (W), and where it gets phis (V) -/
def pt_vf (l : SL) (w : ST) (B u : Nat) (W V : Int64) : Prop :=
  (∀ i, pv_bt W i = true → i < B) ∧ pt_wcl l w B u (fun b => pv_bt W b = true) ∧ (∀ X : Nat → Prop, pt_wcl l w B u X → ∀ i, pv_bt W i = true → X i) ∧ pt_ph l B u W V
theorem pt_vf_e {l : SL} {w w' : ST} {B u : Nat} {W V : Int64} (h10 : w' 10 = w 10) (h11 : w' 11 = w 11) (h : pt_vf l w B u W V) : pt_vf l w' B u W V := by
  have e : ∀ X : Nat → Prop, pt_wcl l w' B u X ↔ pt_wcl l w B u X := by
    intro X
    unfold pt_wcl pv_eg
    rw [h10, h11]
  obtain ⟨h1, h2, h3, h4⟩ := h
  exact ⟨h1, (e _).mpr h2, fun X hX => h3 X ((e X).mp hX), h4⟩
/-- how many phis the first variables have -/
def pt_sn (Ph : Nat → Int64) (B : Nat) : Nat → Nat
  | 0 => 0
  | v + 1 => pt_sn Ph B v + pt_bn (Ph v) B
theorem pt_sn_e {Ph Ph' : Nat → Int64} {B : Nat} : ∀ v, (∀ u, u < v → Ph' u = Ph u) → pt_sn Ph' B v = pt_sn Ph B v := by
  intro v
  induction v with
  | zero => intro _; rfl
  | succ v ih =>
    intro h
    show pt_sn Ph' B v + pt_bn (Ph' v) B = pt_sn Ph B v + pt_bn (Ph v) B
    rw [ih (fun u hu => h u (by omega)), h v (Nat.lt_succ_self v)]
theorem pt_pv_e {B : Nat} {w19 : Nat → Int32} {ph : Nat → List Nat} {Ph Ph' : Nat → Int64} {v : Nat} (h : ∀ u, u < v → Ph' u = Ph u) (hp : pt_pv B w19 ph Ph (fun _ => v)) : pt_pv B w19 ph Ph' (fun _ => v) := by
  intro b hb
  rw [hp b hb]
  congr 1
  refine List.filter_congr fun u hu => ?_
  rw [h u (List.mem_range.mp hu)]
section PA
variable {l : SL} {B v : Nat} {n0 : Nat → Nat} {w0 fw0 : ST} {ph : Nat → List Nat} {Ph : Nat → Int64} {c0 : Nat}
theorem pv_placePhis (hB0 : 0 < B) (hB : B ≤ 60) (hw0 : fw0 0 0 = pu_I B) (hsv : pv_sv B fw0) (hv : v < 320) (hu : ∀ x, x < 64 → pv_bt (l 16 v) x = true → x < B)
    (hbd : ∀ W V, pt_vf l fw0 B v W V → c0 + pt_bn V B ≤ 250) (h17 : fw0 0 17 = pu_I c0) (hrm : pt_rm n0 c0) (hph : pv_phc B fw0 ph) (hd : pv_dis B c0 ph) (hpv : pt_pv B (w0 19) ph Ph (fun _ => v)) :
    ∃ W V w' fw' n' ph', fX4_placePhis w0 l n0 fw0 (pu_I v) = some (1, w', fw', n') ∧ pt_vf l fw0 B v W V ∧ fw' 0 17 = pu_I (c0 + pt_bn V B) ∧ (∀ i, i ≠ 17 → fw' 0 i = fw0 0 i) ∧ pt_rm n' (c0 + pt_bn V B) ∧ pv_phc B fw' ph' ∧ pv_dis B (c0 + pt_bn V B) ph' ∧
      pt_pv B (w' 19) ph' (fun u => if u = v then V else Ph u) (fun _ => v + 1) ∧
      (∀ r, r ≠ 0 → r ≠ 6 → r ≠ 7 → r ≠ 19 → r ≠ 20 → r ≠ 21 → fw' r = fw0 r) ∧ (∀ r, r ≠ 19 → w' r = w0 r) ∧ (∀ r, r ≠ 19 → r ≠ 20 → r ≠ 21 → n' r = n0 r) := by
  obtain ⟨W, a1, a2, a3, a4⟩ := pv_wantedAt (l := l) (w := fw0) hB0 hB hw0 hsv hv hu
  obtain ⟨V, b1, b2⟩ := pv_phis26 (l := l) (w := fw0) hB hw0 hv a2
  have hvf : pt_vf l fw0 B v W V := ⟨a2, a3, a4, b2⟩
  obtain ⟨w', fw', n', ph', e1, t1, t2, t3, t4, t5, t6, t7, t8, t9⟩ := pv_phis115 (Ph := fun u => if u = v then V else Ph u) hB hv V hw0 (hbd W V hvf) (if_pos rfl) h17 hrm hph hd (pt_pv_e (fun u hu => if_neg (by omega)) hpv)
  refine ⟨W, V, w', fw', n', ph', ?_, hvf, t1, t2, t3, t4, t5, t6, t7, t8, t9⟩
  have h21 : fX4_placePhis_J21 w0 l n0 fw0 (pu_I v) W (if W = 0 then 0 else 1) = some (1, w', fw', n') := by
    unfold fX4_placePhis_J21
    rw [b1, Option.bind_some, e1]
    rfl
  unfold fX4_placePhis
  rw [a1, Option.bind_some]
  by_cases h0 : W = 0
  · rw [if_pos h0] at h21
    rw [if_pos ((pv_cmp0 _ _).mpr h0), h21]
  · rw [if_neg h0] at h21
    rw [if_neg (fun h => h0 ((pv_cmp0 _ _).mp h)), h21]
theorem pv_makeL73 {P : ST} {f Vn : Nat} {o1 : ST × ST} {o7 : ST × ST × SL} {o8 : ST × RI} {n2 : Nat → Nat} (hf : f < 6) (h5 : P 5 f = pu_I Vn) (hVn : Vn ≤ 320) (hB0 : 0 < B) (hB : B ≤ 60) (hw0 : fw0 0 0 = pu_I B) (hsv : pv_sv B fw0)
    (hu : ∀ v, v < Vn → ∀ x, x < 64 → pv_bt (l 16 v) x = true → x < B)
    (hbd : ∀ m, m ≤ Vn → ∀ Ph : Nat → Int64, (∀ u, u < m → ∃ W, pt_vf l fw0 B u W (Ph u)) → pt_sn Ph B m ≤ 250) (h17 : fw0 0 17 = 0) (hrm : pt_rm n0 0) (hph : ∀ b, b < B → fw0 6 b = -1) :
    ∃ Ph w' fw' n' ph', fX4_make_L73 P (pu_I f) o1 o7 o8 l NF 0 w0 fw0 n0 n2 = some (Sum.inr (w', fw', n', n2)) ∧ (∀ u, u < Vn → ∃ W, pt_vf l fw0 B u W (Ph u)) ∧ fw' 0 17 = pu_I (pt_sn Ph B Vn) ∧ (∀ i, i ≠ 17 → fw' 0 i = fw0 0 i) ∧ pt_rm n' (pt_sn Ph B Vn) ∧ pv_phc B fw' ph' ∧ pv_dis B (pt_sn Ph B Vn) ph' ∧
      pt_pv B (w' 19) ph' Ph (fun _ => Vn) ∧ (∀ r, r ≠ 0 → r ≠ 6 → r ≠ 7 → r ≠ 19 → r ≠ 20 → r ≠ 21 → fw' r = fw0 r) ∧ (∀ r, r ≠ 19 → w' r = w0 r) ∧ (∀ r, r ≠ 19 → r ≠ 20 → r ≠ 21 → n' r = n0 r) := by
  have hfx : ixb (pu_I f) 6 = true := (pu_ix (by omega)).mpr hf
  have hfn : nn (pu_I f) = f := pu_nn (by omega)
  obtain ⟨t, e1, w', fw', n', ph', Ph, rfl, t0, t1, t2, t3, t4, t5, t6, t7, t8, t9⟩ := pv_for (G := fun k v (s : ST × ST × (Nat → Nat)) => fX4_make_L73 P (pu_I f) o1 o7 o8 l k v s.1 s.2.1 s.2.2 n2) (hi := Vn)
    (Inv := fun v s => ∃ (ph' : Nat → List Nat) (Ph : Nat → Int64), (∀ u, u < v → ∃ W, pt_vf l fw0 B u W (Ph u)) ∧ s.2.1 0 17 = pu_I (pt_sn Ph B v) ∧ (∀ i, i ≠ 17 → s.2.1 0 i = fw0 0 i) ∧ pt_rm s.2.2 (pt_sn Ph B v) ∧ pv_phc B s.2.1 ph' ∧ pv_dis B (pt_sn Ph B v) ph' ∧ pt_pv B (s.1 19) ph' Ph (fun _ => v) ∧
      (∀ r, r ≠ 0 → r ≠ 6 → r ≠ 7 → r ≠ 19 → r ≠ 20 → r ≠ 21 → s.2.1 r = fw0 r) ∧ (∀ r, r ≠ 19 → s.1 r = w0 r) ∧ (∀ r, r ≠ 19 → r ≠ 20 → r ≠ 21 → s.2.2 r = n0 r))
    (Q := fun t => ∃ w' fw' n' ph' Ph, t = Sum.inr (w', fw', n', n2) ∧ (∀ u, u < Vn → ∃ W, pt_vf l fw0 B u W (Ph u)) ∧ fw' 0 17 = pu_I (pt_sn Ph B Vn) ∧ (∀ i, i ≠ 17 → fw' 0 i = fw0 0 i) ∧ pt_rm n' (pt_sn Ph B Vn) ∧ pv_phc B fw' ph' ∧ pv_dis B (pt_sn Ph B Vn) ph' ∧ pt_pv B (w' 19) ph' Ph (fun _ => Vn) ∧
      (∀ r, r ≠ 0 → r ≠ 6 → r ≠ 7 → r ≠ 19 → r ≠ 20 → r ≠ 21 → fw' r = fw0 r) ∧ (∀ r, r ≠ 19 → w' r = w0 r) ∧ (∀ r, r ≠ 19 → r ≠ 20 → r ≠ 21 → n' r = n0 r))
    (by
      rintro k v ⟨w1, f1, n1⟩ hv ⟨ph1, Ph, s0, s1, s2, s3, s4, s5, s6, s7, s8, s9⟩
      have s1 : f1 0 17 = pu_I (pt_sn Ph B v) := s1
      have s2 : ∀ i, i ≠ 17 → f1 0 i = fw0 0 i := s2
      have s7 : ∀ r, r ≠ 0 → r ≠ 6 → r ≠ 7 → r ≠ 19 → r ≠ 20 → r ≠ 21 → f1 r = fw0 r := s7
      have s8 : ∀ r, r ≠ 19 → w1 r = w0 r := s8
      have s9 : ∀ r, r ≠ 19 → r ≠ 20 → r ≠ 21 → n1 r = n0 r := s9
      have r10 : f1 10 = fw0 10 := s7 10 (by decide) (by decide) (by decide) (by decide) (by decide) (by decide)
      have r11 : f1 11 = fw0 11 := s7 11 (by decide) (by decide) (by decide) (by decide) (by decide) (by decide)
      have hsv1 : pv_sv B f1 := by
        unfold pv_sv
        rw [r10, r11]
        exact hsv
      have hall : ∀ W V, pt_vf l f1 B v W V → (∀ u, u < v + 1 → ∃ W', pt_vf l fw0 B u W' (if u = v then V else Ph u)) := by
        intro W V h u hu9
        by_cases e : u = v
        · rw [if_pos e, e]
          exact ⟨W, pt_vf_e r10.symm r11.symm h⟩
        · rw [if_neg e]
          exact s0 u (by omega)
      have hsum : ∀ V, pt_sn (fun u => if u = v then V else Ph u) B (v + 1) = pt_sn Ph B v + pt_bn V B := by
        intro V
        show pt_sn (fun u => if u = v then V else Ph u) B v + pt_bn (if v = v then V else Ph v) B = _
        rw [if_pos rfl, pt_sn_e v (fun u hu => if_neg (by omega))]
      obtain ⟨W, V, w2, f2, n3, ph2, q1, q2, q3, q4, q5, q6, q7, q8, q9, q10, q11⟩ := pv_placePhis (l := l) (v := v) (w0 := w1) (n0 := n1) hB0 hB (by rw [s2 0 (by decide)]; exact hw0) hsv1 (by omega) (hu v hv) (fun W V h => by
        have h9 := hbd (v + 1) (by omega) _ (hall W V h)
        rw [hsum] at h9
        exact h9) s1 s3 s4 s5 s6
      refine ⟨(w2, f2, n3), ?_, ph2, fun u => if u = v then V else Ph u, hall W V q2, by rw [hsum]; exact q3, fun i hi => by rw [show (w2, f2, n3).2.1 0 i = f2 0 i from rfl, q4 i hi, s2 i hi], by rw [hsum]; exact q5, q6, by rw [hsum]; exact q7, q8, fun r r0 r6 r7 r19 r20 r21 => by rw [show (w2, f2, n3).2.1 r = f2 r from rfl, q9 r r0 r6 r7 r19 r20 r21, s7 r r0 r6 r7 r19 r20 r21], fun r hr => by rw [show (w2, f2, n3).1 r = w2 r from rfl, q10 r hr, s8 r hr], fun r r19 r20 r21 => by rw [show (w2, f2, n3).2.2 r = n3 r from rfl, q11 r r19 r20 r21, s9 r r19 r20 r21]⟩
      show (if ixb (pu_I f) 6 = true then (if (P 5 (nn (pu_I f))) ≤ pu_I v then some (Sum.inr (w1, f1, n1, n2)) else ((fX4_placePhis w1 l n1 f1 (pu_I v)).bind fun (o_13 : Int32 × ST × ST × (Nat → Nat)) => (fX4_make_G91_21 (fX4_make_L73 P (pu_I f) o1 o7 o8 l k) o1 o7 o8 l (pu_I v) n2 o_13))) else none) = _
      rw [if_pos hfx, hfn, h5, if_neg (by rw [pu_le (by omega) (by omega)]; omega), q1, Option.bind_some]
      unfold fX4_make_G91_21
      rw [if_neg (show ¬ (1 : Int32) = 0 by decide), pu_su])
    (by
      rintro k ⟨w1, f1, n1⟩ ⟨ph1, Ph, s0, s1, s2, s3, s4, s5, s6, s7, s8, s9⟩
      refine ⟨Sum.inr (w1, f1, n1, n2), ?_, w1, f1, n1, ph1, Ph, rfl, s0, s1, s2, s3, s4, s5, s6, s7, s8, s9⟩
      show (if ixb (pu_I f) 6 = true then (if (P 5 (nn (pu_I f))) ≤ pu_I Vn then some (Sum.inr (w1, f1, n1, n2)) else _) else none) = _
      rw [if_pos hfx, hfn, h5, if_pos (Int32.le_refl _)]) Vn 0 NF (w0, fw0, n0) (by omega) (by have := pv_NF; omega) ⟨fun _ => [], fun _ => 0, fun u hu => absurd hu (Nat.not_lt_zero u), h17, fun i _ => rfl, hrm, ⟨fun b hb => hph b hb, fun b x a _ h => (by cases x <;> cases h)⟩, ⟨fun b _ a h => (by cases h), fun b _ => List.nodup_nil, fun b c a _ _ h => (by cases h)⟩, fun b _ => rfl, fun r _ _ _ _ _ _ => rfl, fun r _ => rfl, fun r _ _ _ => rfl⟩
  exact ⟨Ph, w', fw', n', ph', e1, t0, t1, t2, t3, t4, t5, t6, t7, t8, t9⟩
end PA
