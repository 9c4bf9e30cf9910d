/-! pure side: Made.part's function is md_part and mx_part -/
section DPT
theorem dv9 {k m : Nat} (hk : k < 2147483648) (hm : m < 2147483648) : pu_I k / pu_I m = pu_I (k / m) := by
  have h1 : k / m < 2147483648 := Nat.lt_of_le_of_lt (Nat.div_le_self _ _) hk
  have hne : pu_I m ≠ -1 := fun e => by
    have e2 := congrArg Int32.toInt e
    rw [pu_ti hm] at e2
    have e3 : ((-1 : Int32)).toInt = -1 := by decide
    omega
  rw [← Int32.toInt_inj, Int32.toInt_div_of_ne_right _ _ hne, pu_ti hk, pu_ti hm, pu_ti h1, Int.tdiv_eq_ediv_of_nonneg (by omega)]
  rfl
theorem md9 {k m : Nat} (hk : k < 2147483648) (hm : m < 2147483648) : pu_I k - pu_I k / pu_I m * pu_I m = pu_I (k % m) := by
  rw [dv9 hk hm, ← Int32.ofNat_mul, pu_sub (Nat.div_mul_le_self k m)]
  have e := Nat.div_add_mod k m
  rw [Nat.mul_comm] at e
  exact congrArg pu_I (by omega)
theorem and9 (x : Int32) : ∃ v, v < 2147483648 ∧ x &&& 2147483647 = pu_I v := by
  refine ⟨(x &&& 2147483647).toBitVec.toNat, ?_, ?_⟩
  · rw [Int32.toBitVec_and, BitVec.toNat_and]
    exact Nat.lt_of_le_of_lt Nat.and_le_right (by decide)
  · apply Int32.toBitVec_inj.mp
    simp
/-- what is drawn -/
def dx (xm : Nat) (xf : RI) (k n : Nat) : Nat := nn (((((fL_cell xm xf (pu_I (k % 24))).getD 0) >>> (pu_I (k / 24 % 8) &&& 31)) + (47 * pu_I k)) &&& 2147483647) % n
variable {xm : Nat} {xf : RI}
theorem dx_lt : ∀ k n, 0 < n → dx xm xf k n < n := fun _ _ h => Nat.mod_lt _ h
theorem dw_cell (hx : xm < 2147483648) {j : Nat} (hj : j < 24) : fL_cell xm xf (pu_I j) = some ((fL_cell xm xf (pu_I j)).getD 0) := by
  unfold fL_cell fL_cell_J18
  by_cases h : Int32.ofNat xm ≤ pu_I j
  · rw [if_pos h]; rfl
  · rw [if_neg h]
    have h2 : j < xm := by
      rw [pu_le hx (by omega)] at h
      omega
    have h3 : ixb (pu_I j) xm = true := decide_eq_true (by rw [pu_ti (by omega)]; omega)
    rw [if_pos h3]; rfl
theorem dw_draw (hx : xm < 2147483648) {w : ST} {k n : Nat} (hk : k < 2000000) (h0 : 0 < n) (hn : n < 2147483648) (hw : w 0 1 = pu_I k) : fX13_draw w (pu_I n) xm xf = some (pu_I (dx xm xf k n), upw w 0 1 (pu_I (k + 1))) := by
  have e1 : pu_I k - pu_I k / 24 * 24 = pu_I (k % 24) := md9 (m := 24) (by omega) (by decide)
  have e2 : pu_I k / 24 = pu_I (k / 24) := dv9 (m := 24) (by omega) (by decide)
  have e3 : pu_I (k / 24) - pu_I (k / 24) / 8 * 8 = pu_I (k / 24 % 8) := md9 (m := 8) (by omega) (by decide)
  have hc := dw_cell (xf := xf) hx (Nat.mod_lt k (show 0 < 24 by decide))
  unfold fX13_draw lt9 fL_below
  rw [hw, e1, hc, Option.bind_some, e2, e3]
  obtain ⟨v, hv, he⟩ := and9 ((((fL_cell xm xf (pu_I (k % 24))).getD 0) >>> (pu_I (k / 24 % 8) &&& 31)) + (47 * pu_I k))
  have hne : ¬ pu_I n = 0 := fun e => by
    have e2 : n = 0 := pu_inj hn (by decide) (e.trans (rfl : (0 : Int32) = pu_I 0))
    omega
  have hd : dx xm xf k n = v % n := by
    unfold dx
    rw [he, pu_nn hv]
  rw [hd, if_pos hne, he, md9 hv hn, Option.bind_some, show pu_I (k + 1) = pu_I k + 1 from Int32.ofNat_add k 1]
/-- Made's fields and the state of drawing -/
def mr9 (w : ST) (s : md_S) : Prop := w 0 1 = pu_I s.1 ∧ w 0 2 = 46 - pu_I s.2.1 ∧ w 0 3 = pu_I s.2.2.2 ∧ w 0 4 = pu_I s.2.2.1
theorem mr9_d {w : ST} {s : md_S} (h : mr9 w s) (k : Nat) : mr9 (upw w 0 1 (pu_I k)) (k, s.2) := ⟨rfl, h.2.1, h.2.2.1, h.2.2.2⟩
theorem dw_dr (hx : xm < 2147483648) {w : ST} {s : md_S} {n : Nat} (h : mr9 w s) (hk : s.1 < 2000000) (h0 : 0 < n) (hn : n < 2147483648) : ∃ w', fX13_draw w (pu_I n) xm xf = some (pu_I (dx xm xf s.1 n), w') ∧ mr9 w' (s.1 + 1, s.2) := ⟨_, dw_draw hx hk h0 hn h.1, mr9_d h _⟩
theorem dw_pb {v : Nat} (h : v < 5000) : pk0 0 (pu_I v) = true ∧ pb0 0 (pu_I v) = mp_d v := by
  constructor
  · exact decide_eq_true (Or.inl ⟨rfl, (pu_le (a := 0) (by decide) (by omega)).mpr (Nat.zero_le _), (pu_lt (b := 5000) (by omega) (by decide)).mpr h⟩)
  · show (if (0 : Int32) = 0 then dgB (pu_I v) else nmB (pu_I v)) = _
    rw [if_pos rfl]
    show mp_d (nn (pu_I v)) = _
    rw [pu_nn (by omega)]
theorem dw_pn {v : Nat} (h : v < 4) : pk0 1 (pu_I v) = true ∧ pb0 1 (pu_I v) = mx_nm v := by
  constructor
  · exact decide_eq_true (Or.inr ⟨rfl, (pu_le (a := 0) (by decide) (by omega)).mpr (Nat.zero_le _), (pu_lt (b := 4) (by omega) (by decide)).mpr h⟩)
  · show (if (1 : Int32) = 0 then dgB (pu_I v) else nmB (pu_I v)) = _
    rw [if_neg (by decide)]
    show mx_nm (nn (pu_I v)) = _
    rw [pu_nn (by omega)]
def dX : Nat → Nat
  | 0 => 3
  | d + 1 => 2 * dX d + 4
/-- how much is drawn -/
def db9 (d : Nat) (s s' : md_S) : Prop := s'.1 ≤ s.1 + dX d ∧ s'.2.1 ≤ s.2.1 + dX d ∧ s'.2.2.1 ≤ s.2.2.1 + dX d
theorem dw_leaf (hx : xm < 2147483648) {w3 : ST} {s : md_S} {v : Nat} (hv : v < 10) (h : mr9 w3 s) (hk : s.1 < 1000000) : ∃ w', (if ((pu_I v) - (pu_I v) / 2 * 2) = 0 then ((fX13_draw w3 4 xm xf).bind fun (o_7 : Int32 × ST) => (if (o_7.1) = 0 then ((fX13_draw (o_7.2) 5000 xm xf).bind fun (o_10 : Int32 × ST) => (if pk0 0 (o_10.1) = true then some ((pb0 0 (o_10.1)), (o_10.2)) else none)) else ((fX13_draw (o_7.2) 9 xm xf).bind fun (o_13 : Int32 × ST) => (if pk0 0 (o_13.1) = true then some ((pb0 0 (o_13.1)), (o_13.2)) else none)))) else ((fX13_draw w3 4 xm xf).bind fun (o_17 : Int32 × ST) => (if pk0 1 (o_17.1) = true then some ((pb0 1 (o_17.1)), (o_17.2)) else none))) = some (mx_leaf (dx xm xf) v s, w') ∧ mr9 w' (md_leaf (dx xm xf) v s).2 ∧ (md_leaf (dx xm xf) v s).2.2 = s.2 ∧ (md_leaf (dx xm xf) v s).2.1 ≤ s.1 + 2 := by
  rw [show pu_I v - pu_I v / 2 * 2 = pu_I (v % 2) from md9 (m := 2) (by omega) (by decide)]
  unfold mx_leaf md_leaf
  obtain ⟨w1, h1, h1m⟩ := dw_dr (xf := xf) hx h (n := 4) (by omega) (by decide) (by decide)
  rw [show fX13_draw w3 4 xm xf = _ from h1, Option.bind_some, Option.bind_some]
  dsimp only
  by_cases hc : v % 2 = 0
  · rw [if_pos (show pu_I (v % 2) = 0 by rw [hc]; rfl), if_pos hc, if_pos hc]
    by_cases hd : dx xm xf s.1 4 = 0
    · rw [if_pos (show pu_I (dx xm xf s.1 4) = 0 by rw [hd]; rfl), if_pos hd, if_pos hd]
      obtain ⟨w2, h2, h2m⟩ := dw_dr (xf := xf) hx h1m (n := 5000) (by show s.1 + 1 < _; omega) (by decide) (by decide)
      rw [show fX13_draw w1 5000 xm xf = _ from h2, Option.bind_some]
      have hp := dw_pb (dx_lt (xm := xm) (xf := xf) (s.1 + 1) 5000 (by decide))
      dsimp only at h2m ⊢
      rw [if_pos hp.1, hp.2]
      exact ⟨w2, rfl, h2m, rfl, Nat.le_refl _⟩
    · rw [if_neg (fun e => hd (pu_inj (by have := dx_lt (xm := xm) (xf := xf) s.1 4 (by decide); omega) (by decide) (e.trans (rfl : (0 : Int32) = pu_I 0)))), if_neg hd, if_neg hd]
      obtain ⟨w2, h2, h2m⟩ := dw_dr (xf := xf) hx h1m (n := 9) (by show s.1 + 1 < _; omega) (by decide) (by decide)
      rw [show fX13_draw w1 9 xm xf = _ from h2, Option.bind_some]
      have hp := dw_pb (Nat.lt_trans (dx_lt (xm := xm) (xf := xf) (s.1 + 1) 9 (by decide)) (by decide))
      dsimp only at h2m ⊢
      rw [if_pos hp.1, hp.2]
      exact ⟨w2, rfl, h2m, rfl, Nat.le_refl _⟩
  · rw [if_neg (fun e => hc (pu_inj (by omega) (by decide) (e.trans (rfl : (0 : Int32) = pu_I 0)))), if_neg hc, if_neg hc]
    have hp := dw_pn (dx_lt (xm := xm) (xf := xf) s.1 4 (by decide))
    rw [if_pos hp.1, hp.2]
    exact ⟨w1, rfl, h1m, rfl, Nat.le_succ _⟩
end DPT
