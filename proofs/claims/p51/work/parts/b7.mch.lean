/-! pure side, the machine 1: what all ways share -/
theorem pm_stop (w : ST) (o : Int32) : fX3_stop w o = some (upw (upw w 0 0 o) 0 8 0) := rfl
theorem pm_tick {w : ST} {t k : Nat} (ht : w 0 2 = pu_I t) (htk : t + k < 2147483648) : fX3_tick w (pu_I k) = if t + k ≤ 5000 then some (1, upw w 0 2 (pu_I (t + k))) else some (0, upw (upw (upw w 0 2 5000) 0 0 2) 0 8 0) := by
  unfold fX3_tick
  rw [ht, pv_add]
  by_cases h : t + k ≤ 5000
  · rw [if_pos h, if_pos (show pu_I (t + k) ≤ (5000 : Int32) from (pu_le (b := 5000) htk (by decide)).mpr h)]
    rfl
  · rw [if_neg h, if_neg (show ¬ pu_I (t + k) ≤ (5000 : Int32) from fun h9 => h ((pu_le (b := 5000) htk (by decide)).mp h9))]
    rfl
theorem pm_push {w : ST} {c : Nat} (hc : w 0 19 = pu_I c) (h : c < 512) (x : Int32) : fX3_push w x = some (upw (upw w 19 c x) 0 19 (pu_I (c + 1))) := by
  unfold fX3_push fX3_push_J30
  rw [hc, if_neg (show ¬ (512 : Int32) ≤ pu_I c from fun h9 => by have := (pu_le (a := 512) (by decide) (by omega)).mp h9; omega), if_pos ((pu_ix (by omega)).mpr h), pu_nn (by omega)]
  simp only [lt9]
  rw [pv_upw_n (show (0 : Nat) ≠ 19 by decide), hc, pu_su]
theorem pm_pop {w : ST} {c : Nat} (hc : w 0 19 = pu_I (c + 1)) (h : c < 512) : fX3_pop w = some (w 19 c, upw w 0 19 (pu_I c)) := by
  have hs : pu_I (c + 1) - 1 = pu_I c := pv_sub (b := 1) (by omega)
  unfold fX3_pop
  rw [hc, if_neg (show ¬ pu_I (c + 1) = (0 : Int32) from fun h9 => by have := pu_inj (a := c + 1) (b := 0) (by omega) (by decide) h9; omega), hs]
  simp only [lt9]
  have h1 : upw w 0 19 (pu_I c) 0 19 = pu_I c := by rw [pv_upw, if_pos ⟨rfl, rfl⟩]
  rw [h1, if_pos ((pu_ix (by omega)).mpr h), pu_nn (by omega), pv_upw_n (show (19 : Nat) ≠ 0 by decide)]
theorem pm_close {w : ST} {c : Nat} (hc : w 0 9 = pu_I (c + 1)) (h : c < 8) (x : Int32) : fX3_close w x = if c = 0 then some (0, upw (upw (upw (upw w 0 9 0) 0 0 0) 0 8 0) 0 1 x) else some (1, upw w 0 9 (pu_I c)) := by
  have hs : pu_I (c + 1) - 1 = pu_I c := pv_sub (b := 1) (by omega)
  unfold fX3_close
  rw [hc, hs]
  simp only [lt9]
  have h1 : upw w 0 9 (pu_I c) 0 9 = pu_I c := by rw [pv_upw, if_pos ⟨rfl, rfl⟩]
  rw [h1]
  by_cases h0 : c = 0
  · subst h0
    rw [if_pos (show pu_I 0 = (0 : Int32) from rfl), if_pos rfl, pm_stop, Option.bind_some]
    unfold fX3_close_J27 fX3_close_J39
    have h2 : upw (upw (upw (upw w 0 9 (pu_I 0)) 0 0 0) 0 8 0) 0 1 x 0 9 = 0 := by
      rw [pv_upw, if_neg (fun h => absurd h.2 (by decide)), pv_upw, if_neg (fun h => absurd h.2 (by decide)), pv_upw, if_neg (fun h => absurd h.2 (by decide)), pv_upw, if_pos ⟨rfl, rfl⟩]
      rfl
    rw [h2, if_pos (show (0 : Int32) ≤ (0 : Int32) from Int32.le_refl _), if_pos (Or.inl rfl)]
    rfl
  · rw [if_neg (show ¬ pu_I c = (0 : Int32) from fun h9 => h0 (pu_inj (b := 0) (by omega) (by decide) h9)), if_neg h0]
    unfold fX3_close_J27 fX3_close_J39
    rw [h1, if_neg (show ¬ pu_I c ≤ (0 : Int32) from fun h9 => by have := (pu_le (b := 0) (by omega) (by decide)).mp h9; omega), if_pos (Or.inr rfl)]
/-- what is below stays -/
def pm_fr (c base R : Nat) (w w' : ST) : Prop :=
  (∀ r, r = 11 ∨ r = 12 ∨ r = 13 ∨ r = 14 → ∀ j, j < c → w' r j = w r j) ∧ (∀ z, z < c * 4 → w' 15 z = w 15 z) ∧ (∀ z, z < c * 320 → w' 16 z = w 16 z) ∧ (∀ z, z < c * R → w' 17 z = w 17 z) ∧ (∀ z, z < base → w' 19 z = w 19 z) ∧ w' 0 17 = w 0 17 ∧ w' 8 = w 8
theorem pm_fr_rf (c base R : Nat) (w : ST) : pm_fr c base R w w := ⟨fun _ _ _ _ => rfl, fun _ _ => rfl, fun _ _ => rfl, fun _ _ => rfl, fun _ _ => rfl, rfl, rfl⟩
theorem pm_fr_tr {c base R : Nat} {w w' w2 : ST} (h1 : pm_fr c base R w w') (h2 : pm_fr c base R w' w2) : pm_fr c base R w w2 :=
  ⟨fun r hr j hj => by rw [h2.1 r hr j hj, h1.1 r hr j hj], fun z hz => by rw [h2.2.1 z hz, h1.2.1 z hz], fun z hz => by rw [h2.2.2.1 z hz, h1.2.2.1 z hz], fun z hz => by rw [h2.2.2.2.1 z hz, h1.2.2.2.1 z hz], fun z hz => by rw [h2.2.2.2.2.1 z hz, h1.2.2.2.2.1 z hz], by rw [h2.2.2.2.2.2.1, h1.2.2.2.2.2.1], by rw [h2.2.2.2.2.2.2, h1.2.2.2.2.2.2]⟩
theorem pm_fr_le {c c' base base' R : Nat} {w w' : ST} (hc : c ≤ c') (hb : base ≤ base') (h : pm_fr c' base' R w w') : pm_fr c base R w w' := by
  obtain ⟨h1, h2, h3, h4, h5, h6, h7⟩ := h
  refine ⟨fun r hr j hj => h1 r hr j (Nat.lt_of_lt_of_le hj hc), fun z hz => h2 z (Nat.lt_of_lt_of_le hz (Nat.mul_le_mul_right 4 hc)), fun z hz => h3 z (Nat.lt_of_lt_of_le hz (Nat.mul_le_mul_right 320 hc)), fun z hz => h4 z (Nat.lt_of_lt_of_le hz (Nat.mul_le_mul_right R hc)), fun z hz => h5 z (Nat.lt_of_lt_of_le hz hb), h6, h7⟩
/-- operands, the latest first, above a base -/
def pm_sk (r : Nat → Int32) (base : Nat) : List Int32 → Prop
  | [] => True
  | x :: s => r (base + s.length) = x ∧ pm_sk r base s
theorem pm_sk_e {r r' : Nat → Int32} {base : Nat} : ∀ (s : List Int32), (∀ z, base ≤ z → z < base + s.length → r' z = r z) → pm_sk r base s → pm_sk r' base s := by
  intro s
  induction s with
  | nil => intro _ _; exact trivial
  | cons x s ih =>
    intro h hs
    have hl : (x :: s).length = s.length + 1 := rfl
    exact ⟨by rw [h _ (by omega) (by omega)]; exact hs.1, ih (fun z h1 h2 => h z h1 (by omega)) hs.2⟩
theorem pm_sk_drop {r : Nat → Int32} {base : Nat} : ∀ (k : Nat) (s : List Int32), pm_sk r base s → pm_sk r base (s.drop k) := by
  intro k
  induction k with
  | zero => intro s h; exact h
  | succ k ih =>
    intro s h
    cases s with
    | nil => exact trivial
    | cons x s => exact ih s h.2
/-- steps of a machine -/
def pm_go (mv : ST → Option ST) : Nat → ST → ST → Prop
  | 0, w, w' => w' = w
  | j + 1, w, w' => ¬ w 0 8 = 0 ∧ ∃ w1, mv w = some w1 ∧ pm_go mv j w1 w'
theorem pm_go_app {mv : ST → Option ST} : ∀ (j k : Nat) (w w1 w' : ST), pm_go mv j w w1 → pm_go mv k w1 w' → pm_go mv (j + k) w w' := by
  intro j
  induction j with
  | zero => intro k w w1 w' h1 h2; rw [Nat.zero_add]; rw [show w1 = w from h1] at h2; exact h2
  | succ j ih =>
    intro k w w1 w' ⟨h0, w2, h1, h2⟩ h3
    rw [Nat.succ_add]
    exact ⟨h0, w2, h1, ih k w2 w1 w' h2 h3⟩
theorem pm_go_1 {mv : ST → Option ST} {w w1 : ST} (h0 : ¬ w 0 8 = 0) (h : mv w = some w1) : pm_go mv 1 w w1 := ⟨h0, w1, h, rfl⟩
theorem pm_fillr {n a b : Nat} {f : RI} {v : Int32} (hab : a ≤ b) (hb : b ≤ n) (hn : n < 1000000) : ∃ g, fJ7_fill_fda19 n f (pu_I a) (pu_I b) v = some g ∧ (∀ i, a ≤ i → i < b → g i = v) ∧ (∀ i, ¬ (a ≤ i ∧ i < b) → g i = f i) := by
  obtain ⟨g, h1, h2, h3⟩ := pv_for (G := fun k i s => fJ7_fill_fda19_L10 n (pu_I b) v k i s) (hi := b) (Inv := fun k (g : RI) => (∀ i, a ≤ i → i < k → g i = v) ∧ (∀ i, ¬ (a ≤ i ∧ i < k) → g i = f i) ∧ a ≤ k) (Q := fun (g : RI) => (∀ i, a ≤ i → i < b → g i = v) ∧ (∀ i, ¬ (a ≤ i ∧ i < b) → g i = f i))
    (fun k i s hi hI => by
      refine ⟨upd s i v, ?_, fun j h1 h2 => ?_, fun j hj => ?_, by omega⟩
      · show (if pu_I b ≤ pu_I i then some s else (if ixb (pu_I i) n = true then (lt9 (upd s (nn (pu_I i)) v) fun (f4 : RI) => ((fJ7_fill_fda19_L10 n (pu_I b) v k) (pu_I i + 1) f4)) else none)) = _
        rw [if_neg (by rw [pu_le (by omega) (by omega)]; omega), if_pos ((pu_ix (by omega)).mpr (by omega)), pu_su, pu_nn (by omega)]
        rfl
      · show (if j = i then v else s j) = v
        by_cases hji : j = i
        · rw [if_pos hji]
        · rw [if_neg hji]; exact hI.1 j h1 (by omega)
      · show (if j = i then v else s j) = f j
        rw [if_neg (fun e => hj (by rw [e]; exact ⟨hI.2.2, Nat.lt_succ_self i⟩))]
        exact hI.2.1 j fun h => hj ⟨h.1, by omega⟩)
    (fun k s hI => ⟨s, by
      show (if pu_I b ≤ pu_I b then some s else _) = _
      rw [if_pos (Int32.le_refl _)], hI.1, hI.2.1⟩) (b - a) a NF f (by omega) (by have := pv_NF; omega) ⟨fun i h1 h2 => absurd h1 (by omega), fun i _ => rfl, Nat.le_refl _⟩
  refine ⟨g, ?_, h2, h3⟩
  have hr : fJ7_rangeCheck_23922 (Int32.ofNat n) (pu_I a) (pu_I b) = some () := by
    unfold fJ7_rangeCheck_23922
    rw [if_pos (show pu_I a ≤ pu_I b from (pu_le (by omega) (by omega)).mpr hab), if_pos (show (0 : Int32) ≤ pu_I a from (pu_le (a := 0) (by decide) (by omega)).mpr (Nat.zero_le a)), if_pos (show pu_I b ≤ Int32.ofNat n from (pu_le (b := n) (by omega) (by omega)).mpr hb)]
  unfold fJ7_fill_fda19
  rw [hr, Option.bind_some, h1]
  rfl
/-- arguments are taken from the row -/
theorem pm_enter47 {w0 : ST} {c : Nat} (hc0 : w0 0 9 = pu_I c) (hc : c < 8) : ∀ (p k : Nat) (w : ST) (q : Nat), p ≤ 4 → p < k → w 0 19 = pu_I (q + p) → q + p ≤ 512 →
    ∃ w', fX3_enter_L47 w0 k (pu_I p + (-1)) w = some w' ∧ w' 0 19 = pu_I q ∧ (∀ i, i ≠ 19 → w' 0 i = w 0 i) ∧ (∀ z, z < p → w' 15 (c * 4 + z) = w 19 (q + z)) ∧ (∀ z, (∀ y, y < p → z ≠ c * 4 + y) → w' 15 z = w 15 z) ∧ (∀ r, r ≠ 0 → r ≠ 15 → w' r = w r) := by
  intro p
  induction p with
  | zero =>
    intro k w q _ hk h19 hq
    obtain ⟨k', rfl⟩ : ∃ k', k = k' + 1 := ⟨k - 1, by omega⟩
    refine ⟨w, ?_, by rw [h19]; rfl, fun _ _ => rfl, fun z hz => absurd hz (Nat.not_lt_zero z), fun z _ => rfl, fun r _ _ => rfl⟩
    rfl
  | succ p ih =>
    intro k w q hp hk h19 hq
    obtain ⟨k', rfl⟩ : ∃ k', k = k' + 1 := ⟨k - 1, by omega⟩
    have hm : pu_I (p + 1) + (-1) = pu_I p := by
      rw [← pu_su, Int32.add_assoc]
      show pu_I p + 0 = _
      exact Int32.add_zero _
    have hpop := pm_pop (w := w) (c := q + p) (by rw [h19]; rfl) (by omega)
    obtain ⟨w1, hw1⟩ : ∃ w1, w1 = upw (upw w 0 19 (pu_I (q + p))) 15 (c * 4 + p) (w 19 (q + p)) := ⟨_, rfl⟩
    have h1r : ∀ r, r ≠ 0 → r ≠ 15 → w1 r = w r := fun r r0 r15 => by rw [hw1, pv_upw_n r15, pv_upw_n r0]
    obtain ⟨w', e1, e2, e3, e4, e5, e6⟩ := ih k' w1 q (by omega) (by omega) (by rw [hw1, pv_upw_n (by decide), pv_upw, if_pos ⟨rfl, rfl⟩]) (by omega)
    refine ⟨w', ?_, e2, fun i hi => by rw [e3 i hi, hw1, pv_upw_n (by decide), pv_upw, if_neg fun h => hi h.2], fun z hz => ?_, fun z hz => ?_, fun r r0 r15 => by rw [e6 r r0 r15, h1r r r0 r15]⟩
    · show (if pu_I (p + 1) + (-1) < 0 then some w else ((fX3_pop w).bind fun (o_6 : Int32 × ST) => (if ixb (((w0 0 9) * 4) + (pu_I (p + 1) + (-1))) 32 = true then (lt9 (upw (o_6.2) 15 (nn (((w0 0 9) * 4) + (pu_I (p + 1) + (-1)))) (o_6.1)) fun (w9 : ST) => ((fX3_enter_L47 w0 k') ((pu_I (p + 1) + (-1)) + (-1)) w9)) else none))) = _
      have hx : (pu_I c * 4 : Int32) + pu_I p = pu_I (c * 4 + p) := by rw [show (4 : Int32) = pu_I 4 from rfl, pv_mul, pv_add]
      rw [hm, if_neg (pu_ge (by omega)), hpop, Option.bind_some, hc0, hx, if_pos ((pu_ix (by omega)).mpr (by omega)), pu_nn (by omega)]
      simp only [lt9]
      rw [← hw1]
      exact e1
    · by_cases e : z = p
      · rw [e, e5 _ fun y hy => by omega, hw1, pv_upw, if_pos ⟨rfl, rfl⟩]
      · rw [e4 z (by omega), h1r 19 (by decide) (by decide)]
    · rw [e5 z fun y hy => hz y (by omega), hw1, pv_upw, if_neg fun h => hz p (Nat.lt_succ_self p) h.2, pv_upw_n (by decide)]
/-- a call is opened -/
theorem pm_enter {w P : ST} {n17 : Nat → Nat} {c f p q R : Nat} {way at0 : Int32} (hc0 : w 0 9 = pu_I c) (hc : c < 8) (hf : f < 6) (hp : P 4 f = pu_I p) (hp4 : p ≤ 4) (h19 : w 0 19 = pu_I (q + p)) (hq : q + p ≤ 512) (h17 : w 0 17 = pu_I R) (hn : 8 * R ≤ n17 17) (hn2 : n17 17 < 1000000) (hat : at0 = if way = 0 then P 6 f else if way = 1 then -2 else 0) :
    ∃ w', fX3_enter n17 w way (pu_I f) P = some w' ∧ w' 0 9 = pu_I (c + 1) ∧ w' 0 19 = pu_I q ∧ (∀ i, i ≠ 9 → i ≠ 19 → w' 0 i = w 0 i) ∧ w' 11 c = pu_I f ∧ w' 13 c = 0 ∧ w' 14 c = -1 ∧ w' 12 c = at0 ∧ (∀ z, z < p → w' 15 (c * 4 + z) = w 19 (q + z)) ∧ (∀ v, v < 320 → w' 16 (c * 320 + v) = 0) ∧ (∀ v, v < R → w' 17 (c * R + v) = 0) ∧ pm_fr c q R w w' ∧ (∀ r, r ≠ 0 → r ≠ 11 → r ≠ 12 → r ≠ 13 → r ≠ 14 → r ≠ 15 → r ≠ 16 → r ≠ 17 → w' r = w r) := by
  have hcx : ixb (pu_I c) 8 = true := (pu_ix (by omega)).mpr hc
  have hcn : nn (pu_I c) = c := pu_nn (by omega)
  have hfx : ixb (pu_I f) 6 = true := (pu_ix (by omega)).mpr hf
  have hfn : nn (pu_I f) = f := pu_nn (by omega)
  obtain ⟨w1, hw1⟩ : ∃ w1, w1 = upw w 0 9 (pu_I (c + 1)) := ⟨_, rfl⟩
  obtain ⟨w2, a1, a2, a3, a4, a5, a6⟩ := pm_enter47 (w0 := w) hc0 hc p NF w1 q hp4 (by have := pv_NF; omega) (by rw [hw1, pv_upw, if_neg fun h => absurd h.2 (by decide)]; exact h19) hq
  obtain ⟨w3, hw3⟩ : ∃ w3, w3 = upw (upw (upw w2 11 c (pu_I f)) 13 c 0) 14 c (-1) := ⟨_, rfl⟩
  obtain ⟨w4, hw4⟩ : ∃ w4, w4 = upw w3 12 c at0 := ⟨_, rfl⟩
  obtain ⟨g1, b1, b2, b3⟩ := pm_fillr (n := 2560) (a := c * 320) (b := (c + 1) * 320) (f := w4 16) (v := 0) (by omega) (by omega) (by decide)
  obtain ⟨w5, hw5⟩ : ∃ w5, w5 = srw w4 16 g1 := ⟨_, rfl⟩
  have hcR : (c + 1) * R ≤ n17 17 := Nat.le_trans (Nat.mul_le_mul_right R (show c + 1 ≤ 8 by omega)) hn
  obtain ⟨g2, d1, d2, d3⟩ := pm_fillr (n := n17 17) (a := c * R) (b := (c + 1) * R) (f := w5 17) (v := 0) (Nat.mul_le_mul_right R (Nat.le_succ c)) hcR hn2
  have w2r : ∀ r, r ≠ 0 → r ≠ 15 → w2 r = w r := fun r r0 r15 => by rw [a6 r r0 r15, hw1, pv_upw_n r0]
  have w4r : ∀ r, r ≠ 11 → r ≠ 12 → r ≠ 13 → r ≠ 14 → w4 r = w2 r := fun r r11 r12 r13 r14 => by rw [hw4, pv_upw_n r12, hw3, pv_upw_n r14, pv_upw_n r13, pv_upw_n r11]
  have w5017 : w5 0 17 = pu_I R := by
    rw [hw5, pv_srw_n (by decide), w4r 0 (by decide) (by decide) (by decide) (by decide), a3 17 (by decide), hw1, pv_upw, if_neg fun h => absurd h.2 (by decide)]
    exact h17
  have hfin : ∀ r, r ≠ 16 → r ≠ 17 → srw w5 17 g2 r = w4 r := fun r r16 r17 => by rw [pv_srw_n r17, hw5, pv_srw_n r16]
  have h0i : ∀ i, srw w5 17 g2 0 i = w2 0 i := fun i => by rw [hfin 0 (by decide) (by decide), w4r 0 (by decide) (by decide) (by decide) (by decide)]
  have hsucc : (c + 1) * R = c * R + R := Nat.succ_mul c R
  refine ⟨srw w5 17 g2, ?_, ?_, by rw [h0i]; exact a2, fun i i9 i19 => by rw [h0i, a3 i i19, hw1, pv_upw, if_neg fun h => i9 h.2], ?_, ?_, ?_, ?_, fun z hz => ?_, fun v hv => ?_, fun v hv => ?_, ⟨fun r hr j hj => ?_, fun z hz => ?_, fun z hz => ?_, fun z hz => ?_, fun z hz => ?_, ?_, ?_⟩, fun r r0 r11 r12 r13 r14 r15 r16 r17 => by rw [hfin r r16 r17, w4r r r11 r12 r13 r14, w2r r r0 r15]⟩
  · have h126 : fX3_enter_J126 n17 w w3 at0 = some (srw w5 17 g2) := by
      unfold fX3_enter_J126
      have m1 : (pu_I c * 320 : Int32) = pu_I (c * 320) := pv_mul c 320
      have m2 : ((pu_I c + 1) * 320 : Int32) = pu_I ((c + 1) * 320) := by rw [pu_su]; exact pv_mul (c + 1) 320
      have m3 : pu_I c * pu_I R = pu_I (c * R) := pv_mul c R
      have m4 : (pu_I c + 1) * pu_I R = pu_I ((c + 1) * R) := by rw [pu_su]; exact pv_mul (c + 1) R
      rw [hc0, if_pos hcx, hcn, ← hw4]
      simp only [lt9]
      rw [m1, m2, b1, Option.bind_some, ← hw5, w5017, m3, m4, d1]
      rfl
    unfold fX3_enter
    rw [hc0, if_neg (show ¬ pu_I c = (8 : Int32) from fun h => by have := pu_inj (b := 8) (by omega) (by decide) h; omega), pu_su, ← hw1]
    simp only [lt9]
    have hs1 : P 4 f - 1 = pu_I p + (-1) := by rw [hp]; exact Int32.sub_eq_add_neg _ _
    rw [if_pos hfx, hfn, hs1, a1, Option.bind_some, if_pos hcx, hcn, if_pos hcx, if_pos hcx, ← hw3]
    by_cases hw0 : way = 0
    · rw [if_pos hw0] at hat
      rw [if_pos hw0, if_pos hfx, ← hat]
      exact h126
    · rw [if_neg hw0] at hat ⊢
      by_cases hw1' : way = 1
      · rw [if_pos hw1'] at hat ⊢
        rw [← hat]
        exact h126
      · rw [if_neg hw1'] at hat ⊢
        rw [← hat]
        exact h126
  · rw [h0i, a3 9 (by decide), hw1, pv_upw, if_pos ⟨rfl, rfl⟩]
  · rw [hfin 11 (by decide) (by decide), hw4, pv_upw_n (by decide), hw3, pv_upw_n (by decide), pv_upw_n (by decide), pv_upw, if_pos ⟨rfl, rfl⟩]
  · rw [hfin 13 (by decide) (by decide), hw4, pv_upw_n (by decide), hw3, pv_upw_n (by decide), pv_upw, if_pos ⟨rfl, rfl⟩]
  · rw [hfin 14 (by decide) (by decide), hw4, pv_upw_n (by decide), hw3, pv_upw, if_pos ⟨rfl, rfl⟩]
  · rw [hfin 12 (by decide) (by decide), hw4, pv_upw, if_pos ⟨rfl, rfl⟩]
  · rw [hfin 15 (by decide) (by decide), w4r 15 (by decide) (by decide) (by decide) (by decide), a4 z hz, hw1, pv_upw_n (by decide)]
  · rw [pv_srw_n (by decide), hw5, pv_srw_s]
    exact b2 _ (by omega) (by omega)
  · rw [pv_srw_s]
    exact d2 _ (by omega) (by omega)
  · rcases hr with rfl | rfl | rfl | rfl
    · rw [hfin 11 (by decide) (by decide), hw4, pv_upw_n (by decide), hw3, pv_upw_n (by decide), pv_upw_n (by decide), pv_upw, if_neg fun h => by omega, w2r 11 (by decide) (by decide)]
    · rw [hfin 12 (by decide) (by decide), hw4, pv_upw, if_neg fun h => by omega, hw3, pv_upw_n (by decide), pv_upw_n (by decide), pv_upw_n (by decide), w2r 12 (by decide) (by decide)]
    · rw [hfin 13 (by decide) (by decide), hw4, pv_upw_n (by decide), hw3, pv_upw_n (by decide), pv_upw, if_neg fun h => by omega, pv_upw_n (by decide), w2r 13 (by decide) (by decide)]
    · rw [hfin 14 (by decide) (by decide), hw4, pv_upw_n (by decide), hw3, pv_upw, if_neg fun h => by omega, pv_upw_n (by decide), pv_upw_n (by decide), w2r 14 (by decide) (by decide)]
  · rw [hfin 15 (by decide) (by decide), w4r 15 (by decide) (by decide) (by decide) (by decide), a5 z fun y hy => by omega, hw1, pv_upw_n (by decide)]
  · rw [pv_srw_n (by decide), hw5, pv_srw_s, b3 z (by omega), w4r 16 (by decide) (by decide) (by decide) (by decide), w2r 16 (by decide) (by decide)]
  · rw [pv_srw_s, d3 z (by omega), hw5, pv_srw_n (by decide), w4r 17 (by decide) (by decide) (by decide) (by decide), w2r 17 (by decide) (by decide)]
  · rw [hfin 19 (by decide) (by decide), w4r 19 (by decide) (by decide) (by decide) (by decide), w2r 19 (by decide) (by decide)]
  · rw [h0i, a3 17 (by decide), hw1, pv_upw, if_neg fun h => absurd h.2 (by decide)]
  · rw [hfin 8 (by decide) (by decide), w4r 8 (by decide) (by decide) (by decide) (by decide), w2r 8 (by decide) (by decide)]
theorem pm_enter8 {w P : ST} {n17 : Nat → Nat} {way f : Int32} (hc : w 0 9 = pu_I 8) : fX3_enter n17 w way f P = some (upw (upw w 0 0 3) 0 8 0) := by
  unfold fX3_enter
  rw [hc, if_pos (show pu_I 8 = (8 : Int32) from rfl), pm_stop]
  rfl
