/-! pure side, stores 39: the ways to each block -/
def pv_sm (f : Nat → Nat) : Nat → Nat
  | 0 => 0
  | k + 1 => pv_sm f k + f k
theorem pv_sm_le {f : Nat → Nat} {c : Nat} (h : ∀ i, f i ≤ c) : ∀ k, pv_sm f k ≤ c * k := by
  intro k
  induction k with
  | zero => exact Nat.le_refl _
  | succ k ih =>
    have := h k
    show pv_sm f k + f k ≤ c * (k + 1)
    rw [Nat.mul_succ]
    omega
theorem pv_sm_cg {f g : Nat → Nat} : ∀ k, (∀ i, i < k → f i = g i) → pv_sm f k = pv_sm g k := by
  intro k
  induction k with
  | zero => intro _; rfl
  | succ k ih =>
    intro h
    show pv_sm f k + f k = pv_sm g k + g k
    rw [ih fun i hi => h i (by omega), h k (by omega)]
theorem pv_sm_up {f g : Nat → Nat} {x d : Nat} (h : ∀ i, i ≠ x → g i = f i) (hx : g x = f x + d) : ∀ k, x < k → pv_sm g k = pv_sm f k + d := by
  intro k
  induction k with
  | zero => intro h; omega
  | succ k ih =>
    intro hk
    show pv_sm g k + g k = pv_sm f k + f k + d
    by_cases e : x = k
    · subst e
      rw [pv_sm_cg x fun i hi => h i (by omega), hx]
      omega
    · rw [ih (by omega), h k (by omega)]
      omega
def pv_ld (w : ST) (f b : Nat) : Bool := decide (w 10 f = pu_I b ∨ w 11 f = pu_I b)
theorem pv_ld_eg {w : ST} {f b : Nat} : pv_ld w f b = true ↔ pv_eg w f b := by unfold pv_ld pv_eg; rw [decide_eq_true_iff]
theorem pv_leads {w : ST} {f b : Nat} (hf : f < 60) : fX1_leads w (pu_I f) (pu_I b) = some (pv_b (pv_ld w f b)) := by
  have h60 : ixb (pu_I f) 60 = true := (pu_ix (by omega)).mpr hf
  unfold fX1_leads fX1_leads_J20 fX1_leads_J25 pv_ld
  rw [if_pos h60, pu_nn (by omega), if_pos h60]
  by_cases h1 : w 10 f = pu_I b
  · rw [if_pos h1, if_pos (by decide), decide_eq_true (Or.inl h1)]
    rfl
  · rw [if_neg h1]
    by_cases h2 : w 11 f = pu_I b
    · rw [if_pos h2, if_pos (by decide), decide_eq_true (Or.inr h2)]
      rfl
    · rw [if_neg h2, if_pos (by decide), decide_eq_false fun c => c.elim h1 h2]
      rfl
/-- how many ways of a block lead to blocks below b -/
def pv_cl (w : ST) (f b : Nat) : Nat := (if ¬ w 10 f < 0 ∧ nn (w 10 f) < b then 1 else 0) + (if ¬ w 11 f < 0 ∧ nn (w 11 f) < b ∧ w 11 f ≠ w 10 f then 1 else 0)
theorem pv_cl_le (w : ST) (f b : Nat) : pv_cl w f b ≤ 2 := by
  unfold pv_cl
  split <;> split <;> omega
theorem pv_cl_s {w : ST} {f b : Nat} (hb : b < 1000) : pv_cl w f (b + 1) = pv_cl w f b + (if pv_ld w f b = true then 1 else 0) := by
  have key : ∀ x : Int32, (¬ x < 0 ∧ nn x < b + 1) ↔ ((¬ x < 0 ∧ nn x < b) ∨ x = pu_I b) := by
    intro x
    constructor
    · rintro ⟨h1, h2⟩
      by_cases e : nn x = b
      · exact Or.inr (by rw [← e]; exact pu_of h1)
      · exact Or.inl ⟨h1, by omega⟩
    · rintro (⟨h1, h2⟩ | rfl)
      · exact ⟨h1, by omega⟩
      · rw [pu_nn (by omega)]
        exact ⟨pu_ge (by omega), by omega⟩
  have kn : ∀ x : Int32, x = pu_I b → ¬ (¬ x < 0 ∧ nn x < b) := by
    rintro x rfl ⟨_, h⟩
    rw [pu_nn (by omega)] at h
    omega
  unfold pv_cl pv_ld
  by_cases h1 : w 10 f = pu_I b
  · rw [if_pos ((key _).mpr (Or.inr h1)), if_neg (kn _ h1), if_pos (decide_eq_true (Or.inl h1))]
    have e2 : (¬ w 11 f < 0 ∧ nn (w 11 f) < b + 1 ∧ w 11 f ≠ w 10 f) ↔ (¬ w 11 f < 0 ∧ nn (w 11 f) < b ∧ w 11 f ≠ w 10 f) := by
      constructor
      · rintro ⟨q1, q2, q3⟩
        rcases (key _).mp ⟨q1, q2⟩ with h | h
        · exact ⟨h.1, h.2, q3⟩
        · exact absurd (h.trans h1.symm) q3
      · rintro ⟨q1, q2, q3⟩
        exact ⟨q1, by omega, q3⟩
    by_cases h2 : ¬ w 11 f < 0 ∧ nn (w 11 f) < b ∧ w 11 f ≠ w 10 f
    · rw [if_pos (e2.mpr h2), if_pos h2]
    · rw [if_neg fun c => h2 (e2.mp c), if_neg h2]
  · have e1 : (¬ w 10 f < 0 ∧ nn (w 10 f) < b + 1) ↔ (¬ w 10 f < 0 ∧ nn (w 10 f) < b) := by
      rw [key]
      exact ⟨fun h => h.resolve_right h1, Or.inl⟩
    have e1' : (if ¬ w 10 f < 0 ∧ nn (w 10 f) < b + 1 then 1 else 0) = (if ¬ w 10 f < 0 ∧ nn (w 10 f) < b then 1 else 0) := by
      by_cases h : ¬ w 10 f < 0 ∧ nn (w 10 f) < b
      · rw [if_pos h, if_pos (e1.mpr h)]
      · rw [if_neg h, if_neg fun c => h (e1.mp c)]
    rw [e1']
    by_cases h2 : w 11 f = pu_I b
    · have h3 := (key _).mpr (Or.inr h2)
      have q1 : (if ¬ w 11 f < 0 ∧ nn (w 11 f) < b + 1 ∧ w 11 f ≠ w 10 f then 1 else 0 : Nat) = 1 := if_pos ⟨h3.1, h3.2, fun e => h1 (e ▸ h2)⟩
      have q2 : (if ¬ w 11 f < 0 ∧ nn (w 11 f) < b ∧ w 11 f ≠ w 10 f then 1 else 0 : Nat) = 0 := if_neg fun c => kn _ h2 ⟨c.1, c.2.1⟩
      have q3 : (if decide (w 10 f = pu_I b ∨ w 11 f = pu_I b) = true then 1 else 0 : Nat) = 1 := if_pos (decide_eq_true (Or.inr h2))
      rw [q1, q2, q3]
    · have q3 : (if decide (w 10 f = pu_I b ∨ w 11 f = pu_I b) = true then 1 else 0 : Nat) = 0 := if_neg (by rw [decide_eq_true_iff]; exact fun c => c.elim h1 h2)
      have e2 : (¬ w 11 f < 0 ∧ nn (w 11 f) < b + 1 ∧ w 11 f ≠ w 10 f) ↔ (¬ w 11 f < 0 ∧ nn (w 11 f) < b ∧ w 11 f ≠ w 10 f) := by
        constructor
        · rintro ⟨q1, q2, q3⟩
          have h := ((key _).mp ⟨q1, q2⟩).resolve_right h2
          exact ⟨h.1, h.2, q3⟩
        · rintro ⟨q1, q2, q3⟩
          exact ⟨q1, by omega, q3⟩
      have q1 : (if ¬ w 11 f < 0 ∧ nn (w 11 f) < b + 1 ∧ w 11 f ≠ w 10 f then 1 else 0 : Nat) = (if ¬ w 11 f < 0 ∧ nn (w 11 f) < b ∧ w 11 f ≠ w 10 f then 1 else 0) := by
        by_cases h4 : ¬ w 11 f < 0 ∧ nn (w 11 f) < b ∧ w 11 f ≠ w 10 f
        · rw [if_pos (e2.mpr h4), if_pos h4]
        · rw [if_neg fun c => h4 (e2.mp c), if_neg h4]
      rw [q1, q3, Nat.add_zero]
theorem pv_cl_e {w w' : ST} (h10 : w' 10 = w 10) (h11 : w' 11 = w 11) (f b : Nat) : pv_cl w' f b = pv_cl w f b := by
  unfold pv_cl
  rw [h10, h11]
def pv_S9 (B : Nat) (w : ST) (b x : Nat) : Nat := pv_sm (fun f => if f < x then pv_cl w f (b + 1) else pv_cl w f b) B
def pv_wb (B : Nat) (w : ST) (b : Nat) : Nat := pv_sm (fun f => pv_cl w f b) B
section FW
variable {B : Nat} {w : ST}
theorem pv_S9_0 (b : Nat) : pv_S9 B w b 0 = pv_wb B w b := pv_sm_cg B fun i _ => if_neg (by omega)
theorem pv_S9_B (b : Nat) : pv_S9 B w b B = pv_wb B w (b + 1) := pv_sm_cg B fun i hi => if_pos hi
theorem pv_S9_s {b x : Nat} (hb : b < 1000) (hx : x < B) : pv_S9 B w b (x + 1) = pv_S9 B w b x + (if pv_ld w x b = true then 1 else 0) := by
  refine pv_sm_up (x := x) (fun i hi => ?_) ?_ B hx
  · by_cases h : i < x
    · rw [if_pos h, if_pos (by omega)]
    · rw [if_neg h, if_neg (by omega)]
  · show (if x < x + 1 then pv_cl w x (b + 1) else pv_cl w x b) = (if x < x then pv_cl w x (b + 1) else pv_cl w x b) + _
    rw [if_pos (by omega), if_neg (by omega), pv_cl_s hb]
theorem pv_S9_le (b x : Nat) : pv_S9 B w b x ≤ 2 * B := pv_sm_le (fun i => by
  show (if i < x then pv_cl w i (b + 1) else pv_cl w i b) ≤ 2
  by_cases h : i < x
  · rw [if_pos h]; exact pv_cl_le _ _ _
  · rw [if_neg h]; exact pv_cl_le _ _ _) B
theorem pv_S9_mo {b : Nat} (hb : b < 1000) : ∀ (m x : Nat), x + m ≤ B → pv_S9 B w b x ≤ pv_S9 B w b (x + m) := by
  intro m
  induction m with
  | zero => intro x _; exact Nat.le_refl _
  | succ m ih =>
    intro x h
    have h1 := ih x (by omega)
    have h2 := pv_S9_s (B := B) (w := w) (x := x + m) hb (by omega)
    rw [show x + (m + 1) = x + m + 1 by omega, h2]
    omega
/-- the ways to one block -/
theorem pv_fw22 (hB : B ≤ 60) {b : Nat} (hb : b < B) {w0 : ST} (hw0 : w0 0 0 = pu_I B) (h10 : w0 10 = w 10) (h11 : w0 11 = w 11) :
    ∃ w', fX8_findWays_L22 (pu_I b) NF (pu_I (pv_wb B w b)) 0 w0 = some (pu_I (pv_wb B w (b + 1)), w') ∧ (∀ r, r ≠ 15 → w' r = w0 r) ∧ (∀ j, j < pv_wb B w b → w' 15 j = w0 15 j) ∧
      (∀ j, pv_wb B w b ≤ j → j < pv_wb B w (b + 1) → ∃ p, p < B ∧ w' 15 j = pu_I p ∧ pv_eg w p b) ∧ (∀ p, p < B → pv_eg w p b → ∃ j, pv_wb B w b ≤ j ∧ j < pv_wb B w (b + 1) ∧ w' 15 j = pu_I p) ∧ pv_wb B w b ≤ pv_wb B w (b + 1) ∧ (∀ i j, pv_wb B w b ≤ i → i < j → j < pv_wb B w (b + 1) → w' 15 i ≠ w' 15 j) := by
  have hld : ∀ (t : ST), (∀ r, r ≠ 15 → t r = w0 r) → ∀ x, pv_ld t x b = pv_ld w x b := fun t ht x => by
    unfold pv_ld
    rw [ht 10 (by decide), ht 11 (by decide), h10, h11]
  obtain ⟨t, e1, e2, e3, e4, e5, e6, e7⟩ := pv_for (G := fun k x (t : Int32 × ST) => fX8_findWays_L22 (pu_I b) k t.1 x t.2) (hi := B)
    (Inv := fun k (t : Int32 × ST) => t.1 = pu_I (pv_S9 B w b k) ∧ (∀ r, r ≠ 15 → t.2 r = w0 r) ∧ (∀ j, j < pv_wb B w b → t.2 15 j = w0 15 j) ∧ (∀ j, pv_wb B w b ≤ j → j < pv_S9 B w b k → ∃ p, p < k ∧ t.2 15 j = pu_I p ∧ pv_eg w p b) ∧ (∀ p, p < k → pv_eg w p b → ∃ j, pv_wb B w b ≤ j ∧ j < pv_S9 B w b k ∧ t.2 15 j = pu_I p) ∧ (∀ i j, pv_wb B w b ≤ i → i < j → j < pv_S9 B w b k → t.2 15 i ≠ t.2 15 j))
    (Q := fun t : Int32 × ST => t.1 = pu_I (pv_S9 B w b B) ∧ (∀ r, r ≠ 15 → t.2 r = w0 r) ∧ (∀ j, j < pv_wb B w b → t.2 15 j = w0 15 j) ∧ (∀ j, pv_wb B w b ≤ j → j < pv_S9 B w b B → ∃ p, p < B ∧ t.2 15 j = pu_I p ∧ pv_eg w p b) ∧ (∀ p, p < B → pv_eg w p b → ∃ j, pv_wb B w b ≤ j ∧ j < pv_S9 B w b B ∧ t.2 15 j = pu_I p) ∧ (∀ i j, pv_wb B w b ≤ i → i < j → j < pv_S9 B w b B → t.2 15 i ≠ t.2 15 j))
    (fun n k t hk hI => by
      obtain ⟨i1, i2, i3, i4, i5, i6⟩ := hI
      have hle := pv_S9_le (B := B) (w := w) b (k + 1)
      have hs := pv_S9_s (B := B) (w := w) (b := b) (x := k) (by omega) hk
      have hmo := pv_S9_mo (B := B) (w := w) (b := b) (by omega) k 0 (by omega)
      rw [pv_S9_0, Nat.zero_add] at hmo
      have hform : fX8_findWays_L22 (pu_I b) (n + 1) t.1 (pu_I k) t.2 = (if pv_b (pv_ld w k b) = 0 then fX8_findWays_L22 (pu_I b) n t.1 (pu_I (k + 1)) t.2 else (if ixb t.1 120 = true then fX8_findWays_L22 (pu_I b) n (t.1 + 1) (pu_I (k + 1)) (upw t.2 15 (nn t.1) (pu_I k)) else none)) := by
        show (if (t.2 0 0) ≤ pu_I k then some (t.1, t.2) else ((fX1_leads t.2 (pu_I k) (pu_I b)).bind fun (o_5 : Int32) => (if o_5 = 0 then (fX8_findWays_J52 (fX8_findWays_L22 (pu_I b) n) (pu_I k) t.1 t.2) else (if ixb t.1 120 = true then (lt9 (upw t.2 15 (nn t.1) (pu_I k)) fun (w9 : ST) => (fX8_findWays_J52 (fX8_findWays_L22 (pu_I b) n) (pu_I k) (t.1 + 1) w9)) else none)))) = _
        unfold fX8_findWays_J52
        rw [i2 0 (by decide), hw0, if_neg (by rw [pu_le (by omega) (by omega)]; omega), pv_leads (by omega), Option.bind_some, hld t.2 i2, pu_su]
        simp only [lt9]
      rw [hform]
      cases hl : pv_ld w k b with
      | false =>
        rw [hl, if_neg (by decide), Nat.add_zero] at hs
        rw [if_pos (by decide)]
        refine ⟨t, rfl, by rw [hs]; exact i1, i2, i3, fun j j1 j2 => (i4 j j1 (by omega)).imp fun p hp => ⟨by omega, hp.2⟩, fun p hp he => ?_, fun i j h1 h2 h3 => i6 i j h1 h2 (by omega)⟩
        by_cases e : p = k
        · subst e
          rw [pv_ld_eg.mpr he] at hl
          cases hl
        · rw [hs]
          exact i5 p (by omega) he
      | true =>
        rw [hl, if_pos rfl] at hs
        have hc : pv_S9 B w b k < 120 := by omega
        rw [if_neg (by decide), i1, if_pos ((pu_ix (by omega)).mpr hc), pu_nn (by omega), pu_su]
        refine ⟨(pu_I (pv_S9 B w b k + 1), upw t.2 15 (pv_S9 B w b k) (pu_I k)), rfl, congrArg pu_I hs.symm, fun r hr => (pv_upw_n hr).trans (i2 r hr), fun j hj => ?_, fun j j1 j2 => ?_, fun p hp he => ?_, fun i j h1 h2 h3 => ?_⟩
        · show upw t.2 15 (pv_S9 B w b k) (pu_I k) 15 j = _
          rw [pv_upw, if_neg fun c => by omega]
          exact i3 j hj
        · show ∃ p, p < k + 1 ∧ upw t.2 15 (pv_S9 B w b k) (pu_I k) 15 j = pu_I p ∧ pv_eg w p b
          by_cases e : j = pv_S9 B w b k
          · exact ⟨k, Nat.lt_succ_self k, by rw [pv_upw, if_pos ⟨rfl, e⟩], pv_ld_eg.mp hl⟩
          · obtain ⟨p, p1, p2, p3⟩ := i4 j j1 (by omega)
            exact ⟨p, by omega, by rw [pv_upw, if_neg fun c => e c.2]; exact p2, p3⟩
        · show ∃ j, pv_wb B w b ≤ j ∧ j < pv_S9 B w b (k + 1) ∧ upw t.2 15 (pv_S9 B w b k) (pu_I k) 15 j = pu_I p
          by_cases e : p = k
          · subst e
            exact ⟨pv_S9 B w b p, hmo, by omega, by rw [pv_upw, if_pos ⟨rfl, rfl⟩]⟩
          · obtain ⟨j, j1, j2, j3⟩ := i5 p (by omega) he
            exact ⟨j, j1, by omega, by rw [pv_upw, if_neg fun c => by omega]; exact j3⟩
        · show upw t.2 15 (pv_S9 B w b k) (pu_I k) 15 i ≠ upw t.2 15 (pv_S9 B w b k) (pu_I k) 15 j
          have h3 : j < pv_S9 B w b (k + 1) := h3
          rw [pv_upw, if_neg fun c => by omega, pv_upw]
          by_cases e : j = pv_S9 B w b k
          · rw [if_pos ⟨rfl, e⟩]
            obtain ⟨p, p1, p2, p3⟩ := i4 i h1 (by omega)
            rw [p2]
            intro e9
            have := pu_inj (by omega) (by omega) e9
            omega
          · rw [if_neg fun c => e c.2]
            exact i6 i j h1 h2 (by omega))
    (fun n t hI => ⟨t, by
      show (if (t.2 0 0) ≤ pu_I B then some (t.1, t.2) else _) = _
      rw [hI.2.1 0 (by decide), hw0, if_pos (Int32.le_refl _)], hI⟩)
    B 0 NF (pu_I (pv_wb B w b), w0) (by omega) (by have := pv_NF; omega)
    ⟨by rw [pv_S9_0], fun r _ => rfl, fun j _ => rfl, fun j j1 j2 => by rw [pv_S9_0] at j2; omega, fun p hp => by omega, fun i j h1 h2 h3 => by rw [pv_S9_0] at h3; omega⟩
  have hmo := pv_S9_mo (B := B) (w := w) (b := b) (by omega) B 0 (by omega)
  rw [pv_S9_0, Nat.zero_add, pv_S9_B] at hmo
  rw [pv_S9_B] at e2 e5 e6 e7
  refine ⟨t.2, ?_, e3, e4, e5, e6, hmo, e7⟩
  rw [← e2]
  exact e1
theorem pv_findWays (hB0 : 0 < B) (hB : B ≤ 60) (hw0 : w 0 0 = pu_I B) :
    ∃ w', fX8_findWays w = some w' ∧ (∀ r, r ≠ 14 → r ≠ 15 → w' r = w r) ∧ pv_wys B w' (pv_wb B w) := by
  have hwb0 : pv_wb B w 0 = 0 := by
    have : ∀ k, pv_sm (fun f => pv_cl w f 0) k = 0 := by
      intro k
      induction k with
      | zero => rfl
      | succ k ih =>
        show pv_sm (fun f => pv_cl w f 0) k + pv_cl w k 0 = 0
        rw [ih]
        unfold pv_cl
        rw [if_neg (by omega), if_neg (by omega)]
    exact this B
  obtain ⟨t, e1, e2, e3, e4⟩ := pv_for (G := fun k x (t : Int32 × ST) => fX8_findWays_L4 k t.1 x t.2) (hi := B)
    (Inv := fun k (t : Int32 × ST) => t.1 = pu_I (pv_wb B w k) ∧ (∀ r, r ≠ 14 → r ≠ 15 → t.2 r = w r) ∧ (∀ b, b < k → t.2 14 b = pu_I (pv_wb B w b) ∧ pv_wb B w b ≤ pv_wb B w (b + 1) ∧ pv_wb B w (b + 1) ≤ pv_wb B w k ∧
      (∀ j, pv_wb B w b ≤ j → j < pv_wb B w (b + 1) → ∃ p, p < B ∧ t.2 15 j = pu_I p ∧ pv_eg w p b) ∧ (∀ p, p < B → pv_eg w p b → ∃ j, pv_wb B w b ≤ j ∧ j < pv_wb B w (b + 1) ∧ t.2 15 j = pu_I p) ∧ (∀ i j, pv_wb B w b ≤ i → i < j → j < pv_wb B w (b + 1) → t.2 15 i ≠ t.2 15 j)))
    (Q := fun t : Int32 × ST => t.1 = pu_I (pv_wb B w B) ∧ (∀ r, r ≠ 14 → r ≠ 15 → t.2 r = w r) ∧ (∀ b, b < B → t.2 14 b = pu_I (pv_wb B w b) ∧ pv_wb B w b ≤ pv_wb B w (b + 1) ∧ pv_wb B w (b + 1) ≤ pv_wb B w B ∧
      (∀ j, pv_wb B w b ≤ j → j < pv_wb B w (b + 1) → ∃ p, p < B ∧ t.2 15 j = pu_I p ∧ pv_eg w p b) ∧ (∀ p, p < B → pv_eg w p b → ∃ j, pv_wb B w b ≤ j ∧ j < pv_wb B w (b + 1) ∧ t.2 15 j = pu_I p) ∧ (∀ i j, pv_wb B w b ≤ i → i < j → j < pv_wb B w (b + 1) → t.2 15 i ≠ t.2 15 j)))
    (fun n k t hk hI => by
      obtain ⟨i1, i2, i3⟩ := hI
      obtain ⟨w', f1, f2, f3, f4, f5, f6, f7⟩ := pv_fw22 (w := w) hB hk (w0 := upw t.2 14 k (pu_I (pv_wb B w k))) (by rw [pv_upw_n (by decide), i2 0 (by decide) (by decide)]; exact hw0) (by rw [pv_upw_n (by decide), i2 10 (by decide) (by decide)]) (by rw [pv_upw_n (by decide), i2 11 (by decide) (by decide)])
      refine ⟨(pu_I (pv_wb B w (k + 1)), w'), ?_, rfl, fun r r1 r2 => (f2 r r2).trans ((pv_upw_n r1).trans (i2 r r1 r2)), fun b hb => ?_⟩
      · show (if (t.2 0 0) ≤ pu_I k then some (t.1, t.2) else (if ixb (pu_I k) 61 = true then (lt9 (upw t.2 14 (nn (pu_I k)) t.1) fun (w3 : ST) => ((fX8_findWays_L22 (pu_I k) NF t.1 0 w3).bind fun (o22 : Int32 × ST) => ((fX8_findWays_L4 n) (o22.1) (pu_I k + 1) (o22.2)))) else none)) = _
        rw [i2 0 (by decide) (by decide), hw0, if_neg (by rw [pu_le (by omega) (by omega)]; omega), if_pos ((pu_ix (by omega)).mpr (by omega)), pu_nn (by omega), i1]
        simp only [lt9]
        rw [f1, Option.bind_some, pu_su]
      · show w' 14 b = _ ∧ _
        rw [f2 14 (by decide)]
        by_cases e : b = k
        · subst e
          exact ⟨by rw [pv_upw, if_pos ⟨rfl, rfl⟩], f6, Nat.le_refl _, f4, f5, f7⟩
        · obtain ⟨g1, g2, g3, g4, g5, g6⟩ := i3 b (by omega)
          refine ⟨by rw [pv_upw, if_neg fun c => e c.2]; exact g1, g2, by omega, fun j j1 j2 => ?_, fun p p1 p2 => ?_, fun i j h1 h2 h3 => ?_⟩
          · obtain ⟨p, p1, p2, p3⟩ := g4 j j1 j2
            exact ⟨p, p1, by rw [show ((pu_I (pv_wb B w (k + 1)), w') : Int32 × ST).2 = w' from rfl, f3 j (by omega), pv_upw_n (by decide)]; exact p2, p3⟩
          · obtain ⟨j, j1, j2, j3⟩ := g5 p p1 p2
            exact ⟨j, j1, j2, by rw [show ((pu_I (pv_wb B w (k + 1)), w') : Int32 × ST).2 = w' from rfl, f3 j (by omega), pv_upw_n (by decide)]; exact j3⟩
          · show w' 15 i ≠ w' 15 j
            rw [f3 i (by omega), f3 j (by omega), pv_upw_n (by decide)]
            exact g6 i j h1 h2 h3)
    (fun n t hI => ⟨t, by
      show (if (t.2 0 0) ≤ pu_I B then some (t.1, t.2) else _) = _
      rw [hI.2.1 0 (by decide) (by decide), hw0, if_pos (Int32.le_refl _)], hI⟩)
    B 0 NF (0, w) (by omega) (by have := pv_NF; omega) ⟨by rw [hwb0]; rfl, fun r _ _ => rfl, fun b hb => by omega⟩
  have hB9 : pv_wb B w B ≤ 2 * B := by rw [← pv_S9_0]; exact pv_S9_le B 0
  refine ⟨upw t.2 14 B (pu_I (pv_wb B w B)), ?_, fun r r1 r2 => by rw [pv_upw_n r1, e3 r r1 r2], ?_, fun b hb => (e4 b hb).2.1, ?_, ?_, ?_, ?_⟩
  · unfold fX8_findWays
    have e1 : fX8_findWays_L4 NF 0 0 w = some t := e1
    rw [e1, Option.bind_some, e3 0 (by decide) (by decide), hw0, if_pos ((pu_ix (by omega)).mpr (by omega)), pu_nn (by omega), e2]
    simp only [lt9]
  · intro b hb
    rw [pv_upw]
    by_cases e : b = B
    · rw [if_pos ⟨rfl, e⟩, e]
    · rw [if_neg fun c => e c.2]
      exact (e4 b (by omega)).1
  · intro b hb
    by_cases e : b = B
    · rw [e]; omega
    · obtain ⟨g1, g2, g3, _⟩ := e4 b (by omega)
      omega
  · intro b j hb j1 j2
    obtain ⟨p, p1, p2, p3⟩ := (e4 b hb).2.2.2.1 j j1 j2
    refine ⟨p, p1, by rw [pv_upw_n (by decide)]; exact p2, ?_⟩
    rw [pv_upw_n (by decide), pv_upw_n (by decide), e3 10 (by decide) (by decide), e3 11 (by decide) (by decide)]
    exact p3
  · intro b p hb hp he
    rw [pv_upw_n (by decide), pv_upw_n (by decide), e3 10 (by decide) (by decide), e3 11 (by decide) (by decide)] at he
    obtain ⟨j, j1, j2, j3⟩ := (e4 b hb).2.2.2.2.1 p hp he
    exact ⟨j, j1, j2, by rw [pv_upw_n (by decide)]; exact j3⟩
  · intro b i j hb h1 h2 h3
    rw [pv_upw_n (by decide)]
    exact (e4 b hb).2.2.2.2.2 i j h1 h2 h3
end FW
