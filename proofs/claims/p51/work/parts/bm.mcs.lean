/-! pure side, the machine 16: code from its start; text and code answer alike -/
def pm_mx (sl : Nat → Nat) : Nat → Nat
  | 0 => 0
  | n + 1 => max (pm_mx sl n) (sl n)
theorem pm_mx_le {sl : Nat → Nat} {b : Nat} : ∀ n, (∀ f, f < n → sl f ≤ b) → pm_mx sl n ≤ b := by
  intro n
  induction n with
  | zero => intro _; exact Nat.zero_le b
  | succ n ih => intro h; exact Nat.max_le.mpr ⟨ih fun f hf => h f (by omega), h n (Nat.lt_succ_self n)⟩
section ME
variable {P : ST} {fs : Nat} {np Nl : Nat → Nat} {Cn : Nat → Nat → Nat} {Cw : Nat → ST} {n17 : Nat → Nat}
/-- room for slots -/
theorem pm_slots2 {L : ST} {sl : Nat → Nat} (hP : P 0 0 = pu_I fs) (hfs : fs ≤ 6) (hsl : ∀ f, f < fs → L 3 f = pu_I (sl f) ∧ sl f ≤ 2000) (hn : n17 17 < 1000000) :
    ∃ x, 8 * pm_mx sl fs ≤ x ∧ x < 1000000 ∧ ∀ w : ST, ∃ w5, fX3_makeSlots n17 w 2 P L = some (w5, stn n17 17 x) ∧ w5 0 17 = pu_I (pm_mx sl fs) ∧ (∀ j, j ≠ 17 → w5 0 j = w 0 j) ∧ (∀ r, r ≠ 0 → r ≠ 17 → w5 r = w r) := by
  have hb : ∀ k, k ≤ fs → pm_mx sl k ≤ 2000 := fun k hk => pm_mx_le k fun f hf => (hsl f (by omega)).2
  have hmx := hb fs (Nat.le_refl _)
  refine ⟨if 8 * pm_mx sl fs ≤ n17 17 then n17 17 else pm_mx sl fs * 8 + pm_mx sl fs * 8 / 2, by split <;> omega, by split <;> omega, fun w => ?_⟩
  obtain ⟨o7, h1, h2, h3, h4⟩ := pv_for (G := fun k i (s : ST) => fX3_makeSlots_L7 2 P L k i s) (hi := fs)
    (Inv := fun k (s : ST) => s 0 17 = pu_I (pm_mx sl k) ∧ (∀ j, j ≠ 17 → s 0 j = w 0 j) ∧ (∀ r, r ≠ 0 → s r = w r) ∧ k ≤ fs)
    (Q := fun (s : ST) => s 0 17 = pu_I (pm_mx sl fs) ∧ (∀ j, j ≠ 17 → s 0 j = w 0 j) ∧ (∀ r, r ≠ 0 → s r = w r))
    (fun k i s hi hI => by
      obtain ⟨i1, i2, i3, i4⟩ := hI
      obtain ⟨s1, s2⟩ := hsl i hi
      have hmi := hb i i4
      have hmax : (if s 0 17 < L 3 i then L 3 i else s 0 17) = pu_I (pm_mx sl (i + 1)) := by
        rw [i1, s1]
        show _ = pu_I (max (pm_mx sl i) (sl i))
        by_cases h : pm_mx sl i < sl i
        · rw [if_pos ((pu_lt (by omega) (by omega)).mpr h), Nat.max_eq_right (by omega)]
        · rw [if_neg fun h9 => h ((pu_lt (by omega) (by omega)).mp h9), Nat.max_eq_left (by omega)]
      refine ⟨upw s 0 17 (pu_I (pm_mx sl (i + 1))), ?_, by rw [pv_upw, if_pos ⟨rfl, rfl⟩], fun j hj => by rw [pv_upw, if_neg fun h => hj h.2, i2 j hj], fun r hr => by rw [pv_upw_n hr, i3 r hr], by omega⟩
      show (if (2 : Int32) ≤ 1 then some s else (if (P 0 0) ≤ pu_I i then some s else (if ixb (pu_I i) 6 = true then (lt9 (upw s 0 17 (if (s 0 17) < (L 3 (nn (pu_I i))) then (L 3 (nn (pu_I i))) else (s 0 17))) fun (w5 : ST) => ((fX3_makeSlots_L7 2 P L k) (pu_I i + 1) w5)) else none))) = _
      simp only [lt9]
      rw [if_neg (show ¬ (2 : Int32) ≤ 1 by decide), hP, if_neg (by rw [pu_le (by omega) (by omega)]; omega), if_pos ((pu_ix (by omega)).mpr (by omega)), pu_nn (by omega), hmax, pu_su])
    (fun k s hI => by
      obtain ⟨i1, i2, i3, i4⟩ := hI
      refine ⟨s, ?_, i1, i2, i3⟩
      show (if (2 : Int32) ≤ 1 then some s else (if (P 0 0) ≤ pu_I fs then some s else _)) = _
      rw [if_neg (show ¬ (2 : Int32) ≤ 1 by decide), hP, if_pos (Int32.le_refl _)])
    fs 0 NF (upw w 0 17 0) (by omega) (by have := pv_NF; omega) ⟨by rw [pv_upw, if_pos ⟨rfl, rfl⟩]; rfl, fun j hj => by rw [pv_upw, if_neg fun h => hj h.2], fun r hr => by rw [pv_upw_n hr], Nat.zero_le _⟩
  obtain ⟨x, g, e1, _, e3⟩ := pv_atLeast (n := n17 17) (k := pm_mx sl fs * 8) (f := o7 17) (by omega) hn
  have hx : x = if 8 * pm_mx sl fs ≤ n17 17 then n17 17 else pm_mx sl fs * 8 + pm_mx sl fs * 8 / 2 := by
    rcases e3 with ⟨a1, a2⟩ | ⟨a1, a2⟩
    · rw [if_pos (by omega), a2]
    · rw [if_neg (by omega), a2]
  rw [← hx]
  refine ⟨srw o7 17 g, ?_, by rw [pv_srw_n (by decide)]; exact h2, fun j hj => by rw [pv_srw_n (by decide)]; exact h3 j hj, fun r r0 r17 => by rw [pv_srw_n r17]; exact h4 r r0⟩
  have h1 : fX3_makeSlots_L7 2 P L NF 0 (upw w 0 17 0) = some o7 := h1
  have e1 : fX11_atLeast (n17 17) (o7 17) ((o7 0 17) * 8) = some (x, g) := by
    rw [h2, show (8 : Int32) = pu_I 8 from rfl, pv_mul]
    exact e1
  unfold fX3_makeSlots
  simp only [lt9]
  rw [h1, Option.bind_some, e1]
  rfl
/-- code, the whole run -/
theorem pm_start2 {sl : Nat → Nat} (hcc : pm_cc P fs np Cn Cw Nl (pm_mx sl fs)) (hP : P 0 0 = pu_I fs) {w LL : ST} (hsl : ∀ f, f < fs → LL 3 f = pu_I (sl f) ∧ sl f ≤ 2000) {f : Nat} (hf : f < fs) (hn : n17 17 < 1000000) (Bn : Nat → Nat → Nat) (Bw : Nat → ST) (Sn : Nat → Nat → Nat) (Sw : Nat → ST) {n k : Nat} {r : pu_Res}
    (hr : pu_crn (pm_Cs Cw f) (pm_callC fs np (pm_Cs Cw) n 7) ((List.range (np f)).map (w 8)) k 0 (fun _ => 0, fun _ => 0, [], fun _ => 0) = some r) (h9 : r.1 ≠ 9) :
    ∃ w' x, x < 1000000 ∧ fX3_start n17 w 2 (pu_I f) P LL Bn Bw Sn Sw Cn Cw = some (w', stn n17 17 x) ∧ w' 8 = w 8 ∧ (w' 0 0 = 2 ∨ (w' 0 0 = r.1 ∧ w' 0 1 = r.2.1 ∧ ∀ z, z < 16 → w' 4 z = r.2.2 z)) := by
  obtain ⟨hfs, hall⟩ := id hcc
  obtain ⟨hnp, hnp4, hN0, _⟩ := hall f hf
  obtain ⟨x, x1, x2, x3⟩ := pm_slots2 (n17 := n17) hP hfs hsl hn
  have hstx : stn n17 17 x 17 = x := by unfold stn; exact if_pos rfl
  obtain ⟨w6, w5, b1, b2, b3, b4, b5, b6, b7, b8, b9, b10, b11, b12, b13, b14, b15, b16, b17, b18, b19⟩ := pm_open (n17 := n17) (P := P) (w := w) (L := LL) (f := f) (p := np f) (way := 2) (at0 := 0) (R := pm_mx sl fs) (n1 := stn n17 17 x) (by omega) hnp hnp4 (fun w4 _ => by
    obtain ⟨w5, c1, c2, c3, c4⟩ := x3 w4
    exact ⟨w5, _, c1, c2, by rw [hstx]; exact x1, by rw [hstx]; exact x2, c3, c4, rfl⟩) (by rw [if_neg (by decide), if_neg (by decide)])
  have har : ((List.range (np f)).map (w 8)).length = np f := by rw [List.length_map, List.length_range]
  have hCX : pm_CX w6 f 0 0 (fun _ => 0) (fun _ => 0) [] (fun _ => 0) ((List.range (np f)).map (w 8)) 0 (pm_mx sl fs) := by
    refine ⟨⟨⟨b1, b2, b3, b6, b4, b5, b7, b8, b9, b10⟩, fun z hz _ => absurd hz (Nat.not_lt_zero z), fun v hv => by rw [Nat.zero_mul, Nat.zero_add]; exact b12 v (by omega), b14, fun z hz => ?_⟩, fun v hv => by rw [Nat.zero_mul, Nat.zero_add]; exact b13 v hv⟩
    rw [har] at hz
    rw [Nat.zero_mul, Nat.zero_add, b15 z hz, List.getD_eq_getElem?_getD, List.getElem?_map, List.getElem?_range hz]
    rfl
  obtain ⟨j, w', g1, g2, g3⟩ := pm_code hcc (n17 := stn n17 17 x) b17 b18 (n := n) 7 k 0 f 0 (fun _ => 0) (fun _ => 0) [] (fun _ => 0) _ 0 w6 r rfl hCX hf hN0 har (by omega) hr h9
  rcases g3 with ⟨k1, k2, k3⟩ | ⟨_, _, c', _, _, hc', _⟩
  · have hL := pm_L67 (P := P) (p1 := 2) (Bn := Bn) (Bw := Bw) (Sn := Sn) (Sw := Sw) (Cn := Cn) (Cw := Cw) (o5 := (w5, stn n17 17 x)) (mv := fun w => fX3_moveInCode (stn n17 17 x) w Cn Cw P) (fun w => by rw [if_neg (by decide), if_neg (by decide)]) j NF 0 w6 w' g1 k1 (by omega) (by have := pv_NF; omega)
    exact ⟨w', x, x2, b19 Bn Bw Sn Sw Cn Cw w' hL, by rw [g2.2.2.2.2.2.2]; exact b16, k3.imp id fun h => h.2⟩
  · omega
end ME
