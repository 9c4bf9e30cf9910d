/-! pure side, the graph 3: rows of sets, and the room for them -/
theorem pg_ix {wd v v' a a' : Nat} (ha : a < wd) (ha' : a' < wd) (h : v * wd + a = v' * wd + a') : v = v' ∧ a = a' := by
  have h1 : (v * wd + a) / wd = v := by rw [Nat.mul_comm, Nat.mul_add_div (by omega), Nat.div_eq_of_lt ha, Nat.add_zero]
  have h2 : (v' * wd + a') / wd = v' := by rw [Nat.mul_comm, Nat.mul_add_div (by omega), Nat.div_eq_of_lt ha', Nat.add_zero]
  have e : v = v' := by rw [← h1, ← h2, h]
  subst e
  exact ⟨rfl, by omega⟩
theorem pg_ixlt {wd v V a : Nat} (hv : v < V) (ha : a < wd) : v * wd + a < V * wd := by
  have h1 : (v + 1) * wd ≤ V * wd := Nat.mul_le_mul_right wd hv
  rw [Nat.succ_mul] at h1
  omega
/-- a member of a set in a row of sets -/
def pg_g (l : SL) (r wd v h : Nat) : Bool := pv_bt (l r (v * wd + h / 64)) (h % 64)
def pg_up (l : SL) (r wd v h : Nat) : SL := upl l r (v * wd + h / 64) (l r (v * wd + h / 64) ||| ((1 : Int64) <<< ((pu_I (h % 64)).toInt64 &&& 63)))
theorem pg_up_g (l : SL) (r wd v h : Nat) {v' h' : Nat} (hh : h / 64 < wd) (hh' : h' / 64 < wd) : pg_g (pg_up l r wd v h) r wd v' h' = (pg_g l r wd v' h' || decide (v' = v ∧ h' = h)) := by
  unfold pg_g pg_up
  rw [pv_upl]
  by_cases e : v' * wd + h' / 64 = v * wd + h / 64
  · obtain ⟨e1, e2⟩ := pg_ix hh' hh e
    rw [if_pos ⟨rfl, e⟩, pv_bt_or, pv_bt_1 (by omega), e]
    congr 1
    by_cases e3 : h' % 64 = h % 64
    · rw [decide_eq_true e3, decide_eq_true ⟨e1, by omega⟩]
    · rw [decide_eq_false e3, decide_eq_false fun h9 => e3 (by rw [h9.2])]
  · rw [if_neg fun h9 => e h9.2, decide_eq_false fun h9 => e (by rw [h9.1, h9.2]), Bool.or_false]
theorem pg_up_n {l : SL} {r wd v h q : Nat} (hq : q ≠ r) : pg_up l r wd v h q = l q := pv_upl_n hq
theorem pg_up_gn {l : SL} {r wd v h q wd' v' h' : Nat} (hq : q ≠ r) : pg_g (pg_up l r wd v h) q wd' v' h' = pg_g l q wd' v' h' := by
  unfold pg_g
  rw [pg_up_n hq]
theorem pg_idx {w : ST} {wd v h : Nat} (hw : w 0 2 = pu_I wd) (hh : h < 2147483648) : (pu_I v * w 0 2) + (pu_I h >>> ((6 : Int32) &&& 31)) = pu_I (v * wd + h / 64) := by
  rw [hw, pg_sh6 hh, pv_mul, pv_add]
section GP
variable {n : Nat → Nat} {w : ST} {l : SL} {wd v h : Nat}
theorem pg_put3 (hw : w 0 2 = pu_I wd) (hh : h < 2147483648) (hi : v * wd + h / 64 < n 4) (hn : n 4 < 1000000) : fX2_put_a1_p0_3 n w l (pu_I v) (pu_I h) = some (pg_up l 4 wd v h) := by
  unfold fX2_put_a1_p0_3
  rw [pg_idx hw hh, if_pos ((pu_ix (by omega)).mpr hi), if_pos ((pu_ix (by omega)).mpr hi), pu_nn (by omega), pg_an63 hh]
  rfl
theorem pg_put4 (hw : w 0 2 = pu_I wd) (hh : h < 2147483648) (hi : v * wd + h / 64 < n 5) (hn : n 5 < 1000000) : fX2_put_a1_p0_4 n w l (pu_I v) (pu_I h) = some (pg_up l 5 wd v h) := by
  unfold fX2_put_a1_p0_4
  rw [pg_idx hw hh, if_pos ((pu_ix (by omega)).mpr hi), if_pos ((pu_ix (by omega)).mpr hi), pu_nn (by omega), pg_an63 hh]
  rfl
theorem pg_put6 (hw : w 0 2 = pu_I wd) (hh : h < 2147483648) (hi : v * wd + h / 64 < n 7) (hn : n 7 < 1000000) : fX2_put_a1_p0_6 n w l (pu_I v) (pu_I h) = some (pg_up l 7 wd v h) := by
  unfold fX2_put_a1_p0_6
  rw [pg_idx hw hh, if_pos ((pu_ix (by omega)).mpr hi), if_pos ((pu_ix (by omega)).mpr hi), pu_nn (by omega), pg_an63 hh]
  rfl
theorem pg_put10 (hw : w 0 2 = pu_I wd) (hh : h < 2147483648) (hi : v * wd + h / 64 < n 11) (hn : n 11 < 1000000) : fX2_put_a1_p0_10 n w l (pu_I v) (pu_I h) = some (pg_up l 11 wd v h) := by
  unfold fX2_put_a1_p0_10
  rw [pg_idx hw hh, if_pos ((pu_ix (by omega)).mpr hi), if_pos ((pu_ix (by omega)).mpr hi), pu_nn (by omega), pg_an63 hh]
  rfl
theorem pg_isIn4 (hw : w 0 2 = pu_I wd) (hh : h < 2147483648) (hi : v * wd + h / 64 < n 5) (hn : n 5 < 1000000) : fX2_isIn_a1_p0_4 n w l (pu_I v) (pu_I h) = some (pv_b (pg_g l 5 wd v h)) := by
  unfold fX2_isIn_a1_p0_4
  rw [pg_idx hw hh, if_pos ((pu_ix (by omega)).mpr hi), pu_nn (by omega), pg_an63 hh, pv_holds (by omega), Option.bind_some, if_pos (pv_b01 _)]
  rfl
theorem pg_isIn10 (hw : w 0 2 = pu_I wd) (hh : h < 2147483648) (hi : v * wd + h / 64 < n 11) (hn : n 11 < 1000000) : fX2_isIn_a1_p0_10 n w l (pu_I v) (pu_I h) = some (pv_b (pg_g l 11 wd v h)) := by
  unfold fX2_isIn_a1_p0_10
  rw [pg_idx hw hh, if_pos ((pu_ix (by omega)).mpr hi), pu_nn (by omega), pg_an63 hh, pv_holds (by omega), Option.bind_some, if_pos (pv_b01 _)]
  rfl
end GP
/-! rows filled -/
theorem pg_updL (f : RL) (i : Nat) (v : Int64) (j : Nat) : vp_updL f i v j = if j = i then v else f j := rfl
theorem pg_fillL {n lo hi : Nat} {f : RL} {v : Int64} (h1 : lo ≤ hi) (h2 : hi ≤ n) (hn : n < 1000000) : ∃ g, fJ7_fill_bad5a n f (pu_I lo) (pu_I hi) v = some g ∧ ∀ i, g i = if lo ≤ i ∧ i < hi then v else f i := by
  have h := pv_for (G := fun k i s => fJ7_fill_bad5a_L10 n (pu_I hi) v k i s) (hi := hi) (Inv := fun k (g : RL) => lo ≤ k ∧ ∀ i, g i = if lo ≤ i ∧ i < k then v else f i) (Q := fun (g : RL) => ∀ i, g i = if lo ≤ i ∧ i < hi then v else f i)
    (fun k i s hi' hI => by
      refine ⟨vp_updL s i v, ?_, by omega, fun j => ?_⟩
      · show (if pu_I hi ≤ pu_I i then some s else _) = _
        rw [if_neg (by rw [pu_le (by omega) (by omega)]; omega), if_pos ((pu_ix (by omega)).mpr (by omega)), pu_su]
        unfold lt9
        rw [pu_nn (by omega)]
      · rw [pg_updL]
        by_cases e : j = i
        · rw [if_pos e, if_pos (by omega)]
        · rw [if_neg e, hI.2]
          by_cases e2 : lo ≤ j ∧ j < i
          · rw [if_pos e2, if_pos (by omega)]
          · rw [if_neg e2, if_neg (by omega)])
    (fun k s hI => ⟨s, by
      show (if pu_I hi ≤ pu_I hi then some s else _) = _
      rw [if_pos (Int32.le_refl _)], hI.2⟩) (hi - lo) lo NF f (by omega) (by have := pv_NF; omega) ⟨Nat.le_refl _, fun i => by rw [if_neg (by omega)]⟩
  obtain ⟨g, g1, g2⟩ := h
  refine ⟨g, ?_, g2⟩
  unfold fJ7_fill_bad5a fJ7_rangeCheck_23922
  rw [if_pos ((pu_le (by omega) (by omega)).mpr h1), if_pos (show (0 : Int32) ≤ pu_I lo from (pu_le (a := 0) (by decide) (by omega)).mpr (Nat.zero_le _)), if_pos (show pu_I hi ≤ Int32.ofNat n from (pu_le (b := n) (by omega) (by omega)).mpr h2), Option.bind_some]
  rw [show fJ7_fill_bad5a_L10 n (pu_I hi) v NF (pu_I lo) f = some g from g1]
  rfl
theorem pg_fillI {n hi : Nat} {f : RI} {v : Int32} (h2 : hi ≤ n) (hn : n < 1000000) : ∃ g, fJ7_fill_fda19 n f 0 (pu_I hi) v = some g ∧ ∀ i, g i = if i < hi then v else f i := by
  have h := pv_for (G := fun k i s => fJ7_fill_fda19_L10 n (pu_I hi) v k i s) (hi := hi) (Inv := fun k (g : RI) => ∀ i, g i = if i < k then v else f i) (Q := fun (g : RI) => ∀ i, g i = if i < hi then v else f i)
    (fun k i s hi' hI => by
      refine ⟨upd s i v, ?_, fun j => ?_⟩
      · show (if pu_I hi ≤ pu_I i then some s else _) = _
        rw [if_neg (by rw [pu_le (by omega) (by omega)]; omega), if_pos ((pu_ix (by omega)).mpr (by omega)), pu_su]
        unfold lt9
        rw [pu_nn (by omega)]
      · unfold upd
        by_cases e : j = i
        · rw [if_pos e, if_pos (by omega)]
        · rw [if_neg e, hI]
          by_cases e2 : j < i
          · rw [if_pos e2, if_pos (by omega)]
          · rw [if_neg e2, if_neg (by omega)])
    (fun k s hI => ⟨s, by
      show (if pu_I hi ≤ pu_I hi then some s else _) = _
      rw [if_pos (Int32.le_refl _)], hI⟩) hi 0 NF f (by omega) (by have := pv_NF; omega) (fun i => by rw [if_neg (Nat.not_lt_zero _)])
  obtain ⟨g, g1, g2⟩ := h
  refine ⟨g, ?_, g2⟩
  unfold fJ7_fill_fda19 fJ7_rangeCheck_23922
  rw [if_pos (show (0 : Int32) ≤ pu_I hi from (pu_le (a := 0) (by decide) (by omega)).mpr (Nat.zero_le _)), if_pos (Int32.le_refl _), if_pos (show pu_I hi ≤ Int32.ofNat n from (pu_le (b := n) (by omega) (by omega)).mpr h2), Option.bind_some]
  rw [show fJ7_fill_fda19_L10 n (pu_I hi) v NF 0 f = some g from g1]
  rfl
theorem pg_fillA {n : Nat} {f : RL} {v : Int64} (hn : n < 1000000) : ∃ g, fJ7_fill_d0a16 n f v = some g ∧ ∀ i, i < n → g i = v := by
  have h := pv_for (G := fun k i s => fJ7_fill_d0a16_L6 n v k i s) (hi := n) (Inv := fun k (g : RL) => ∀ i, i < k → g i = v) (Q := fun (g : RL) => ∀ i, i < n → g i = v)
    (fun k i s hi' hI => by
      refine ⟨vp_updL s i v, ?_, fun j hj => ?_⟩
      · show (if pu_I n ≤ pu_I i then some s else _) = _
        rw [if_neg (by rw [pu_le (by omega) (by omega)]; omega), if_pos ((pu_ix (by omega)).mpr (by omega)), pu_su]
        unfold lt9
        rw [pu_nn (by omega)]
      · rw [pg_updL]
        by_cases e : j = i
        · rw [if_pos e]
        · rw [if_neg e]; exact hI j (by omega))
    (fun k s hI => ⟨s, by
      show (if pu_I n ≤ pu_I n then some s else _) = _
      rw [if_pos (Int32.le_refl _)], hI⟩) n 0 NF f (by omega) (by have := pv_NF; omega) (fun i hi => absurd hi (Nat.not_lt_zero _))
  obtain ⟨g, g1, g2⟩ := h
  refine ⟨g, ?_, g2⟩
  unfold fJ7_fill_d0a16
  rw [show fJ7_fill_d0a16_L6 n v NF 0 f = some g from g1]
  rfl
/-! room -/
theorem pg_atI {n k : Nat} {f : RI} (hk : k < 300000) (hn : n < 1000000) : ∃ m f', fX11_atLeast n f (pu_I k) = some (m, f') ∧ k ≤ m ∧ (∀ c, n ≤ c → k + k / 2 ≤ c → m ≤ c) := by
  obtain ⟨m, f', h1, _, h3⟩ := pv_atLeast (f := f) hk hn
  exact ⟨m, f', h1, by omega, fun c h1 h2 => by omega⟩
theorem pg_atL {n k : Nat} {f : RL} (hk : k < 300000) (hn : n < 1000000) : ∃ m f', fX11_atLeast_ n f (pu_I k) = some (m, f') ∧ k ≤ m ∧ (∀ c, n ≤ c → k + k / 2 ≤ c → m ≤ c) := by
  unfold fX11_atLeast_
  by_cases h : n < k
  · refine ⟨k + k / 2, va_cpy f (fun _ => 0) 0 0 n, ?_, by omega, fun c _ h2 => h2⟩
    have hm : n < k + k / 2 := by omega
    rw [if_pos (show Int32.ofNat n < pu_I k from (pu_lt (a := n) (by omega) (by omega)).mpr h), pv_half (by omega), pv_add]
    have hc : fJ7_copyOf_c38d5 n f (pu_I (k + k / 2)) = some (k + k / 2, va_cpy f (fun _ => 0) 0 0 n) := by
      unfold fJ7_copyOf_c38d5
      rw [if_neg (fun e => by have := pu_inj (a := k + k / 2) (b := n) (by omega) (by omega) e; omega), if_neg (show ¬ pu_I (k + k / 2) < Int32.ofNat n from fun e => by have := (pu_lt (b := n) (by omega) (by omega)).mp e; omega)]
      have hk9 : nck (pu_I (k + k / 2)) = true := by
        unfold nck
        rw [decide_eq_true_iff]
        exact ⟨pu_ge (by omega), by rw [pu_nn (by omega)]; omega⟩
      rw [if_pos hk9]
      show (if cpk (pu_I 0) (pu_I 0) (pu_I n) n (nn (pu_I (k + k / 2))) = true then _ else none) = _
      rw [pu_nn (show k + k / 2 < 2147483648 by omega), if_pos (pa_cpk (by omega) (by omega) (by decide) (by decide) (by omega))]
      simp only [lt9]
      rw [show nn 0 = 0 from rfl, show nn (Int32.ofNat n) = n from pu_nn (by omega)]
    rw [hc, Option.bind_some, if_pos]
    unfold grs
    rw [decide_eq_true_iff]
    show n < k + k / 2 ∧ k + k / 2 ≤ 3 * (k + k / 2 - n)
    omega
  · refine ⟨n, f, ?_, by omega, fun c h1 _ => h1⟩
    rw [if_neg (show ¬ Int32.ofNat n < pu_I k from fun e => h ((pu_lt (a := n) (by omega) (by omega)).mp e))]
/-- the rooms of the graph stay below these -/
def pg_cap (n : Nat → Nat) : Prop := n 4 ≤ 1850 ∧ n 5 ≤ 1850 ∧ n 6 ≤ 1850 ∧ n 7 ≤ 64 ∧ n 10 ≤ 12770 ∧ n 11 ≤ 202700 ∧ n 12 ≤ 10700 ∧ n 13 ≤ 10700 ∧ n 14 ≤ 10700 ∧ n 15 ≤ 10700 ∧ n 16 ≤ 10700 ∧ n 17 ≤ 10700 ∧ n 18 ≤ 10700 ∧ n 19 ≤ 10700
/-- the rooms of the graph for blocks, sets and values -/
def pg_room (B wd V : Nat) (n : Nat → Nat) : Prop := (B * wd ≤ n 4 ∧ B * wd ≤ n 5 ∧ B * wd ≤ n 6) ∧ wd ≤ n 7 ∧ V * wd ≤ n 11 ∧ (V ≤ n 12 ∧ V ≤ n 13 ∧ V ≤ n 14 ∧ V ≤ n 15 ∧ V ≤ n 16 ∧ V ≤ n 17 ∧ V ≤ n 18 ∧ V ≤ n 19) ∧ pg_cap n
theorem pg_makeRoom {n : Nat → Nat} {w : ST} {l : SL} {B wd V : Nat} (hB : B ≤ 60) (hw : w 0 2 = pu_I wd) (hV : w 0 1 = pu_I V) (hwd : wd ≤ 20) (hV2 : V ≤ 7110) (hVw : V * wd ≤ 135100) (hc : pg_cap n) :
    ∃ w' l' n', fX2_makeRoom n w l (pu_I B) = some (w', l', n') ∧ w' 0 = w 0 ∧ pg_room B wd V n' := by
  obtain ⟨c4, c5, c6, c7, c10, c11, c12, c13, c14, c15, c16, c17, c18, c19⟩ := hc
  have hBw : B * wd ≤ 1200 := by
    have := Nat.mul_le_mul hB hwd
    omega
  obtain ⟨m4, f4, a4, b4, d4⟩ := pg_atL (n := n 4) (k := B * wd) (f := l 4) (by omega) (by omega)
  obtain ⟨m5, f5, a5, b5, d5⟩ := pg_atL (n := n 5) (k := B * wd) (f := l 5) (by omega) (by omega)
  obtain ⟨m6, f6, a6, b6, d6⟩ := pg_atL (n := n 6) (k := B * wd) (f := l 6) (by omega) (by omega)
  obtain ⟨m7, f7, a7, b7, d7⟩ := pg_atL (n := n 7) (k := wd) (f := l 7) (by omega) (by omega)
  obtain ⟨m11, f11, a11, b11, d11⟩ := pg_atL (n := n 11) (k := V * wd) (f := l 11) (by omega) (by omega)
  obtain ⟨m12, f12, a12, b12, d12⟩ := pg_atI (n := n 12) (k := V) (f := w 12) (by omega) (by omega)
  obtain ⟨m13, f13, a13, b13, d13⟩ := pg_atI (n := n 13) (k := V) (f := w 13) (by omega) (by omega)
  obtain ⟨m14, f14, a14, b14, d14⟩ := pg_atL (n := n 14) (k := V) (f := l 14) (by omega) (by omega)
  obtain ⟨m15, f15, a15, b15, d15⟩ := pg_atI (n := n 15) (k := V) (f := w 15) (by omega) (by omega)
  obtain ⟨m16, f16, a16, b16, d16⟩ := pg_atI (n := n 16) (k := V) (f := w 16) (by omega) (by omega)
  obtain ⟨m17, f17, a17, b17, d17⟩ := pg_atI (n := n 17) (k := V) (f := w 17) (by omega) (by omega)
  obtain ⟨m18, f18, a18, b18, d18⟩ := pg_atI (n := n 18) (k := V) (f := w 18) (by omega) (by omega)
  obtain ⟨m19, f19, a19, b19, d19⟩ := pg_atI (n := n 19) (k := V) (f := w 19) (by omega) (by omega)
  obtain ⟨n9, hn9⟩ : ∃ n9, n9 = (stn (stn (stn (stn (stn (stn (stn (stn (stn (stn (stn (stn (stn n 4 m4) 5 m5) 6 m6) 7 m7) 11 m11) 12 m12) 13 m13) 14 m14) 15 m15) 16 m16) 17 m17) 18 m18) 19 m19) := ⟨_, rfl⟩
  have q4 : n9 4 = m4 := by rw [hn9]; rfl
  have q5 : n9 5 = m5 := by rw [hn9]; rfl
  have q6 : n9 6 = m6 := by rw [hn9]; rfl
  have q7 : n9 7 = m7 := by rw [hn9]; rfl
  have q11 : n9 11 = m11 := by rw [hn9]; rfl
  have q12 : n9 12 = m12 := by rw [hn9]; rfl
  have q13 : n9 13 = m13 := by rw [hn9]; rfl
  have q14 : n9 14 = m14 := by rw [hn9]; rfl
  have q15 : n9 15 = m15 := by rw [hn9]; rfl
  have q16 : n9 16 = m16 := by rw [hn9]; rfl
  have q17 : n9 17 = m17 := by rw [hn9]; rfl
  have q18 : n9 18 = m18 := by rw [hn9]; rfl
  have q19 : n9 19 = m19 := by rw [hn9]; rfl
  have q10 : n9 10 = n 10 := by rw [hn9]; rfl
  refine ⟨(srw (srw (srw (srw (srw (srw (srw w 12 f12) 13 f13) 15 f15) 16 f16) 17 f17) 18 f18) 19 f19), (srl (srl (srl (srl (srl (srl l 4 f4) 5 f5) 6 f6) 7 f7) 11 f11) 14 f14), n9, ?_, ?_, ?_⟩
  · unfold fX2_makeRoom
    rw [hw, pv_mul, a4, Option.bind_some]
    simp only [lt9]
    unfold fX2_makeRoom_G17_6
    rw [show stn n 4 m4 5 = n 5 from rfl, show srl l 4 f4 5 = l 5 from rfl, hw, pv_mul, a5, Option.bind_some]
    simp only [lt9]
    unfold fX2_makeRoom_G34_12
    rw [show stn (stn n 4 m4) 5 m5 6 = n 6 from rfl, show srl (srl l 4 f4) 5 f5 6 = l 6 from rfl, hw, pv_mul, a6, Option.bind_some]
    simp only [lt9]
    unfold fX2_makeRoom_G51_18
    rw [show stn (stn (stn n 4 m4) 5 m5) 6 m6 7 = n 7 from rfl, show srl (srl (srl l 4 f4) 5 f5) 6 f6 7 = l 7 from rfl, hw, a7, Option.bind_some]
    simp only [lt9]
    unfold fX2_makeRoom_G66_24
    rw [show stn (stn (stn (stn n 4 m4) 5 m5) 6 m6) 7 m7 11 = n 11 from rfl, show srl (srl (srl (srl l 4 f4) 5 f5) 6 f6) 7 f7 11 = l 11 from rfl, hw, hV, pv_mul, a11, Option.bind_some]
    simp only [lt9]
    unfold fX2_makeRoom_G86_30
    rw [show stn (stn (stn (stn (stn n 4 m4) 5 m5) 6 m6) 7 m7) 11 m11 12 = n 12 from rfl, hV, a12, Option.bind_some]
    simp only [lt9]
    unfold fX2_makeRoom_G101_36
    rw [show stn (stn (stn (stn (stn (stn n 4 m4) 5 m5) 6 m6) 7 m7) 11 m11) 12 m12 13 = n 13 from rfl, show srw w 12 f12 13 = w 13 from rfl, show srw w 12 f12 0 = w 0 from rfl, hV, a13, Option.bind_some]
    simp only [lt9]
    unfold fX2_makeRoom_G116_42
    rw [show stn (stn (stn (stn (stn (stn (stn n 4 m4) 5 m5) 6 m6) 7 m7) 11 m11) 12 m12) 13 m13 14 = n 14 from rfl, show srl (srl (srl (srl (srl l 4 f4) 5 f5) 6 f6) 7 f7) 11 f11 14 = l 14 from rfl, show srw (srw w 12 f12) 13 f13 0 = w 0 from rfl, hV, a14, Option.bind_some]
    simp only [lt9]
    unfold fX2_makeRoom_G131_48
    rw [show stn (stn (stn (stn (stn (stn (stn (stn n 4 m4) 5 m5) 6 m6) 7 m7) 11 m11) 12 m12) 13 m13) 14 m14 15 = n 15 from rfl, show srw (srw w 12 f12) 13 f13 15 = w 15 from rfl, show srw (srw w 12 f12) 13 f13 0 = w 0 from rfl, hV, a15, Option.bind_some]
    simp only [lt9]
    unfold fX2_makeRoom_G146_54
    rw [show stn (stn (stn (stn (stn (stn (stn (stn (stn n 4 m4) 5 m5) 6 m6) 7 m7) 11 m11) 12 m12) 13 m13) 14 m14) 15 m15 16 = n 16 from rfl, show srw (srw (srw w 12 f12) 13 f13) 15 f15 16 = w 16 from rfl, show srw (srw (srw w 12 f12) 13 f13) 15 f15 0 = w 0 from rfl, hV, a16, Option.bind_some]
    simp only [lt9]
    unfold fX2_makeRoom_G161_60
    rw [show stn (stn (stn (stn (stn (stn (stn (stn (stn (stn n 4 m4) 5 m5) 6 m6) 7 m7) 11 m11) 12 m12) 13 m13) 14 m14) 15 m15) 16 m16 17 = n 17 from rfl, show srw (srw (srw (srw w 12 f12) 13 f13) 15 f15) 16 f16 17 = w 17 from rfl, show srw (srw (srw (srw w 12 f12) 13 f13) 15 f15) 16 f16 0 = w 0 from rfl, hV, a17, Option.bind_some]
    simp only [lt9]
    unfold fX2_makeRoom_G176_66
    rw [show stn (stn (stn (stn (stn (stn (stn (stn (stn (stn (stn n 4 m4) 5 m5) 6 m6) 7 m7) 11 m11) 12 m12) 13 m13) 14 m14) 15 m15) 16 m16) 17 m17 18 = n 18 from rfl, show srw (srw (srw (srw (srw w 12 f12) 13 f13) 15 f15) 16 f16) 17 f17 18 = w 18 from rfl, show srw (srw (srw (srw (srw w 12 f12) 13 f13) 15 f15) 16 f16) 17 f17 0 = w 0 from rfl, hV, a18, Option.bind_some]
    simp only [lt9]
    unfold fX2_makeRoom_G191_72
    rw [show stn (stn (stn (stn (stn (stn (stn (stn (stn (stn (stn (stn n 4 m4) 5 m5) 6 m6) 7 m7) 11 m11) 12 m12) 13 m13) 14 m14) 15 m15) 16 m16) 17 m17) 18 m18 19 = n 19 from rfl, show srw (srw (srw (srw (srw (srw w 12 f12) 13 f13) 15 f15) 16 f16) 17 f17) 18 f18 19 = w 19 from rfl, show srw (srw (srw (srw (srw (srw w 12 f12) 13 f13) 15 f15) 16 f16) 17 f17) 18 f18 0 = w 0 from rfl, hV, a19, Option.bind_some]
    simp only [lt9]
    unfold fX2_makeRoom_G206_78
    rw [hn9]
  · rfl
  · refine ⟨⟨by rw [q4]; exact b4, by rw [q5]; exact b5, by rw [q6]; exact b6⟩, by rw [q7]; exact b7, by rw [q11]; exact b11, ⟨by rw [q12]; exact b12, by rw [q13]; exact b13, by rw [q14]; exact b14, by rw [q15]; exact b15, by rw [q16]; exact b16, by rw [q17]; exact b17, by rw [q18]; exact b18, by rw [q19]; exact b19⟩, by rw [q4]; exact d4 _ c4 (by omega), by rw [q5]; exact d5 _ c5 (by omega), by rw [q6]; exact d6 _ c6 (by omega), by rw [q7]; exact d7 _ c7 (by omega), by rw [q10]; exact c10, by rw [q11]; exact d11 _ c11 (by omega), by rw [q12]; exact d12 _ c12 (by omega), by rw [q13]; exact d13 _ c13 (by omega), by rw [q14]; exact d14 _ c14 (by omega), by rw [q15]; exact d15 _ c15 (by omega), by rw [q16]; exact d16 _ c16 (by omega), by rw [q17]; exact d17 _ c17 (by omega), by rw [q18]; exact d18 _ c18 (by omega), by rw [q19]; exact d19 _ c19 (by omega)⟩
