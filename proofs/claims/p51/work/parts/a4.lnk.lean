/-! pure side, the maker 3: what waits where: the operands of each step of a text -/
def pt_one (k : Int32) : Bool := decide (k = 17 ∨ k = 31 ∨ k = 36 ∨ k = 24 ∨ k = 33 ∨ k = 34)
def pt_gv (k : Int32) : Bool := pu_isop k || decide (k = 0 ∨ k = 17 ∨ k = 20 ∨ k = 30)
theorem pv_takesOne (k : Int32) : fX4_takesOne k = some (pv_b (pt_one k)) := by
  unfold fX4_takesOne fX4_takesOne_J36 fX4_takesOne_J41 pt_one
  by_cases h1 : k = 17
  · rw [if_pos h1, decide_eq_true (Or.inl h1)]; rfl
  rw [if_neg h1]
  by_cases h2 : k = 31
  · rw [if_pos h2, decide_eq_true (Or.inr (Or.inl h2))]; rfl
  rw [if_neg h2]
  by_cases h3 : k = 36
  · rw [if_pos h3, decide_eq_true (Or.inr (Or.inr (Or.inl h3)))]; rfl
  rw [if_neg h3]
  by_cases h4 : k = 24
  · rw [if_pos h4, decide_eq_true (Or.inr (Or.inr (Or.inr (Or.inl h4))))]; rfl
  rw [if_neg h4]
  by_cases h5 : k = 33
  · rw [if_pos h5, decide_eq_true (Or.inr (Or.inr (Or.inr (Or.inr (Or.inl h5)))))]; rfl
  rw [if_neg h5]
  by_cases h6 : k = 34
  · rw [if_pos h6, decide_eq_true (Or.inr (Or.inr (Or.inr (Or.inr (Or.inr h6)))))]; rfl
  rw [if_neg h6, decide_eq_false (by
    rintro (h | h | h | h | h | h)
    · exact h1 h
    · exact h2 h
    · exact h3 h
    · exact h4 h
    · exact h5 h
    · exact h6 h)]
  rfl
/-- how many wait no longer -/
def pt_pop (P : ST) (i : Nat) : Nat := if pu_ur (P 9 i) = true then 2 else if P 9 i = 19 then 0 else if P 9 i = 32 then 0 else if pt_one (P 9 i) = true then 1 else if P 9 i = 20 then nn (P 4 (nn (P 10 i))) else 0
def pt_nx (P : ST) (i : Nat) (s : List Nat) : List Nat := if pt_gv (P 9 i) = true then i :: s.drop (pt_pop P i) else s.drop (pt_pop P i)
/-- what waits ahead of a step, the latest first -/
def pt_T (P : ST) (a : Nat) : Nat → List Nat
  | 0 => []
  | i + 1 => if i < a then [] else pt_nx P i (pt_T P a i)
def pt_at (s : List Nat) (k : Nat) : Int32 := match s[k]? with | some x => pu_I x | none => -1
def pt_lo (P : ST) (i : Nat) (s : List Nat) : Int32 := if pu_ur (P 9 i) = true then pt_at s 1 else if P 9 i = 19 then pt_at s (nn (P 10 i) - 1) else if P 9 i = 32 then pt_at s 0 else if pt_one (P 9 i) = true then pt_at s 0 else -1
def pt_ro (P : ST) (i : Nat) (s : List Nat) : Int32 := if pu_ur (P 9 i) = true then pt_at s 0 else -1
/-- enough waits -/
def pt_en (P : ST) (i : Nat) (s : List Nat) : Prop :=
  pt_pop P i ≤ s.length ∧ (P 9 i = 19 → ∃ t, P 10 i = pu_I t ∧ 1 ≤ t ∧ t ≤ s.length) ∧ (P 9 i = 32 → 1 ≤ s.length) ∧ (P 9 i = 20 → ixb (P 10 i) 6 = true ∧ ∃ t, P 4 (nn (P 10 i)) = pu_I t ∧ t ≤ 4) ∧ s.length < 511
theorem pt_T_a (P : ST) (a : Nat) : ∀ i, i ≤ a → pt_T P a i = [] := by
  intro i
  cases i with
  | zero => intro _; rfl
  | succ i => intro h; exact if_pos (by omega)
theorem pt_T_s {P : ST} {a i : Nat} (h : a ≤ i) : pt_T P a (i + 1) = pt_nx P i (pt_T P a i) := if_neg (by omega)
/-- a row holds what waits -/
def pt_stk (r : Nat → Int32) : List Nat → Prop
  | [] => True
  | x :: s => r s.length = pu_I x ∧ pt_stk r s
theorem pt_stk_up {r r' : Nat → Int32} : ∀ (s : List Nat) (m : Nat), s.length ≤ m → (∀ i, i < m → r' i = r i) → pt_stk r s → pt_stk r' s := by
  intro s
  induction s with
  | nil => intro _ _ _ _; exact trivial
  | cons x s ih =>
    intro m hm he h
    have hm : s.length + 1 ≤ m := hm
    exact ⟨by rw [he _ (by omega)]; exact h.1, ih m (by omega) he h.2⟩
theorem pt_stk_drop {r : Nat → Int32} : ∀ (k : Nat) (s : List Nat), pt_stk r s → pt_stk r (s.drop k) := by
  intro k
  induction k with
  | zero => intro s h; exact h
  | succ k ih =>
    intro s h
    cases s with
    | nil => exact trivial
    | cons x s => exact ih s h.2
theorem pt_stk_get {r : Nat → Int32} : ∀ (s : List Nat) (k : Nat), pt_stk r s → k < s.length → r (s.length - 1 - k) = pt_at s k := by
  intro s
  induction s with
  | nil => intro k _ h; cases h
  | cons x s ih =>
    intro k h hk
    have hk : k < s.length + 1 := hk
    cases k with
    | zero => exact h.1
    | succ k =>
      have h9 := ih k h.2 (by omega)
      show r (s.length + 1 - 1 - (k + 1)) = pt_at s k
      rw [← h9]
      congr 1
      omega
theorem pv_waitingAt {w : ST} {s : List Nat} (h : pt_stk (w 5) s) (hl : s.length < 512) {t : Nat} (ht : 1 ≤ t) (ht2 : t ≤ s.length) : fX4_waitingAt w (pu_I (s.length - t)) = some (pt_at s (t - 1)) := by
  unfold fX4_waitingAt fX4_waitingAt_J21
  rw [if_neg (pu_ge (by omega)), if_pos (show pu_I (s.length - t) < (512 : Int32) from (pu_lt (b := 512) (by omega) (by decide)).mpr (by omega)), if_pos ((pu_ix (by omega)).mpr (by omega)), pu_nn (by omega), ← pt_stk_get s (t - 1) h (by omega)]
  congr 2
  omega
section LK
variable {P : ST} {f a0 a1 : Nat}
theorem pv_lk192 {kk : Int32 → Int32 → ST → Option ST} {i c : Nat} {w : ST} (hi : i < 3200) (hc : c < 512) : fX4_linkOperands_J192 kk P (pu_I i) (pu_I c) w = (if pt_gv (P 9 i) = true then kk (pu_I (c + 1)) (pu_I (i + 1)) (upw w 5 c (pu_I i)) else kk (pu_I c) (pu_I (i + 1)) w) := by
  have hmx : (if pu_I c < 0 then 0 else pu_I c) = pu_I c := if_neg (pu_ge (by omega))
  have h232 : fX4_linkOperands_J232 kk (pu_I i) (pu_I c) w = kk (pu_I (c + 1)) (pu_I (i + 1)) (upw w 5 c (pu_I i)) := by
    unfold fX4_linkOperands_J232 fX4_linkOperands_J250
    rw [hmx, if_neg (fun h => by have := (pu_le (a := 512) (b := c) (by decide) (by omega)).mp h; omega), if_pos ((pu_ix (by omega)).mpr (by omega)), pu_nn (by omega)]
    simp only [lt9]
    rw [pu_su, pu_su]
  unfold fX4_linkOperands_J192
  rw [pu_nn (by omega), pv_isop, Option.bind_some, h232]
  unfold pt_gv fX4_linkOperands_J250
  rw [hmx, pu_su]
  cases ho : pu_isop (P 9 i) with
  | true =>
    rw [if_neg (show ¬ pv_b true = 0 by decide), Bool.true_or, if_pos rfl]
  | false =>
    rw [if_pos (show pv_b false = 0 by decide), Bool.false_or]
    by_cases h1 : P 9 i = 0
    · rw [if_pos h1, if_pos (decide_eq_true (Or.inl h1))]
    rw [if_neg h1]
    by_cases h2 : P 9 i = 17
    · rw [if_pos h2, if_pos (decide_eq_true (Or.inr (Or.inl h2)))]
    rw [if_neg h2]
    by_cases h3 : P 9 i = 20
    · rw [if_pos h3, if_pos (decide_eq_true (Or.inr (Or.inr (Or.inl h3))))]
    rw [if_neg h3]
    by_cases h4 : P 9 i = 30
    · rw [if_pos h4, if_pos (decide_eq_true (Or.inr (Or.inr (Or.inr h4))))]
    rw [if_neg h4, if_neg (fun h => by
      rcases of_decide_eq_true h with h | h | h | h
      · exact h1 h
      · exact h2 h
      · exact h3 h
      · exact h4 h)]
theorem pv_linkOperands {w : ST} (hf : f < 6) (h6 : P 6 f = pu_I a0) (h7 : P 7 f = pu_I a1) (ha : a0 ≤ a1) (h3 : a1 ≤ 3200) (hen : ∀ i, a0 ≤ i → i < a1 → pt_en P i (pt_T P a0 i)) :
    ∃ w', fX4_linkOperands w P (pu_I f) = some w' ∧ (∀ r, r ≠ 2 → r ≠ 3 → r ≠ 5 → w' r = w r) ∧ (∀ i, a0 ≤ i → i < a1 → w' 2 i = pt_lo P i (pt_T P a0 i) ∧ w' 3 i = pt_ro P i (pt_T P a0 i)) := by
  have hfx : ixb (pu_I f) 6 = true := (pu_ix (by omega)).mpr hf
  have hfn : nn (pu_I f) = f := pu_nn (by omega)
  obtain ⟨t, e1, t1, t2⟩ := pv_for (G := fun k i (s : Int32 × ST) => fX4_linkOperands_L10 P (pu_I f) k s.1 i s.2) (hi := a1)
    (Inv := fun i s => s.1 = pu_I (pt_T P a0 i).length ∧ (∀ r, r ≠ 2 → r ≠ 3 → r ≠ 5 → s.2 r = w r) ∧ pt_stk (s.2 5) (pt_T P a0 i) ∧ (∀ j, a0 ≤ j → j < i → s.2 2 j = pt_lo P j (pt_T P a0 j) ∧ s.2 3 j = pt_ro P j (pt_T P a0 j)) ∧ a0 ≤ i)
    (Q := fun w' => (∀ r, r ≠ 2 → r ≠ 3 → r ≠ 5 → w' r = w r) ∧ (∀ i, a0 ≤ i → i < a1 → w' 2 i = pt_lo P i (pt_T P a0 i) ∧ w' 3 i = pt_ro P i (pt_T P a0 i)))
    (by
      rintro k i ⟨v, w2⟩ hi ⟨s1, s2, s3, s4, s5⟩
      have s1 : v = pu_I (pt_T P a0 i).length := s1
      subst s1
      have s2 : ∀ r, r ≠ 2 → r ≠ 3 → r ≠ 5 → w2 r = w r := s2
      have s3 : pt_stk (w2 5) (pt_T P a0 i) := s3
      have s4 : ∀ j, a0 ≤ j → j < i → w2 2 j = pt_lo P j (pt_T P a0 j) ∧ w2 3 j = pt_ro P j (pt_T P a0 j) := s4
      obtain ⟨n1, n2, n3, n4, n5⟩ := hen i s5 hi
      have hix : ixb (pu_I i) 3200 = true := (pu_ix (by omega)).mpr (by omega)
      have hin : nn (pu_I i) = i := pu_nn (by omega)
      -- the row of the step, and what is left waiting
      have hpop : ∃ w3, fX4_linkOperands_L10 P (pu_I f) (k + 1) (pu_I (pt_T P a0 i).length) (pu_I i) w2 = fX4_linkOperands_J192 (fX4_linkOperands_L10 P (pu_I f) k) P (pu_I i) (pu_I ((pt_T P a0 i).length - pt_pop P i)) w3 ∧ (∀ r, r ≠ 2 → r ≠ 3 → w3 r = w2 r) ∧ (∀ j, j ≠ i → w3 2 j = w2 2 j ∧ w3 3 j = w2 3 j) ∧ w3 2 i = pt_lo P i (pt_T P a0 i) ∧ w3 3 i = pt_ro P i (pt_T P a0 i) := by
        obtain ⟨w8, hw8⟩ : ∃ w8, w8 = upw (upw w2 2 i (-1)) 3 i (-1) := ⟨_, rfl⟩
        have h85 : w8 5 = w2 5 := by rw [hw8, pv_upw_n (by decide), pv_upw_n (by decide)]
        have hst8 : pt_stk (w8 5) (pt_T P a0 i) := by rw [h85]; exact s3
        have h8r : ∀ r, r ≠ 2 → r ≠ 3 → w8 r = w2 r := fun r r2 r3 => by rw [hw8, pv_upw_n r3, pv_upw_n r2]
        have h8j : ∀ j, j ≠ i → w8 2 j = w2 2 j ∧ w8 3 j = w2 3 j := fun j hj => by
          rw [hw8, pv_upw_n (by decide), pv_upw, if_neg fun h => hj h.2, pv_upw, if_neg fun h => hj h.2, pv_upw_n (by decide)]
          exact ⟨rfl, rfl⟩
        have h82 : w8 2 i = -1 := by rw [hw8, pv_upw_n (by decide), pv_upw, if_pos ⟨rfl, rfl⟩]
        have h83 : w8 3 i = -1 := by rw [hw8, pv_upw, if_pos ⟨rfl, rfl⟩]
        -- one row more: left
        have hleft : ∀ x, (∀ r, r ≠ 2 → r ≠ 3 → upw w8 2 i x r = w2 r) ∧ (∀ j, j ≠ i → upw w8 2 i x 2 j = w2 2 j ∧ upw w8 2 i x 3 j = w2 3 j) ∧ upw w8 2 i x 2 i = x ∧ upw w8 2 i x 3 i = -1 := by
          intro x
          refine ⟨fun r r2 r3 => by rw [pv_upw_n r2, h8r r r2 r3], fun j hj => ?_, by rw [pv_upw, if_pos ⟨rfl, rfl⟩], by rw [pv_upw_n (by decide), h83]⟩
          rw [pv_upw, if_neg fun h => hj h.2, pv_upw_n (by decide)]
          exact h8j j hj
        have hstart : ∀ X : ST → Option ST, (if ixb (pu_I f) 6 = true then (if (P 7 (nn (pu_I f))) ≤ pu_I i then some w2 else (if ixb (pu_I i) 3200 = true then (if ixb (pu_I i) 3200 = true then (lt9 (upw w2 2 (nn (pu_I i)) (-1)) fun (w6 : ST) => (if ixb (pu_I i) 3200 = true then (lt9 (upw w6 3 (nn (pu_I i)) (-1)) X) else none)) else none) else none)) else none) = X w8 := by
          intro X
          rw [if_pos hfx, hfn, h7, if_neg (by rw [pu_le (by omega) (by omega)]; omega), if_pos hix, if_pos hix, hin, hw8]
          simp only [lt9]
          rw [if_pos hix]
        have hone : 1 ≤ (pt_T P a0 i).length → fX4_waitingAt w8 (pu_I (pt_T P a0 i).length - 1) = some (pt_at (pt_T P a0 i) 0) := by
          intro h1
          have := pv_waitingAt hst8 (by omega) (t := 1) (Nat.le_refl _) h1
          rw [show (1 : Int32) = pu_I 1 from rfl, pv_sub h1]
          exact this
        by_cases hur : pu_ur (P 9 i) = true
        · have hp2 : pt_pop P i = 2 := by unfold pt_pop; rw [if_pos hur]
          rw [hp2] at n1 ⊢
          have hm2 : pu_I (pt_T P a0 i).length + (-2) = pu_I ((pt_T P a0 i).length - 2) := by
            have h2 : pu_I (pt_T P a0 i).length - 2 = pu_I (pt_T P a0 i).length + (-2) := Int32.sub_eq_add_neg _ _
            rw [← h2, show (2 : Int32) = pu_I 2 from rfl, pv_sub n1]
          obtain ⟨w9, hw9⟩ : ∃ w9, w9 = upw (upw w8 3 i (pt_at (pt_T P a0 i) 0)) 2 i (pt_at (pt_T P a0 i) 1) := ⟨_, rfl⟩
          have hst9 : pt_stk ((upw w8 3 i (pt_at (pt_T P a0 i) 0)) 5) (pt_T P a0 i) := by rw [pv_upw_n (by decide)]; exact hst8
          have htwo : fX4_waitingAt (upw w8 3 i (pt_at (pt_T P a0 i) 0)) (pu_I (pt_T P a0 i).length - 2) = some (pt_at (pt_T P a0 i) 1) := by
            have := pv_waitingAt hst9 (by omega) (t := 2) (by decide) n1
            rw [show (2 : Int32) = pu_I 2 from rfl, pv_sub n1]
            exact this
          refine ⟨w9, ?_, fun r r2 r3 => ?_, fun j hj => ?_, ?_, ?_⟩
          · refine (hstart _).trans ?_
            rw [hin, pv_ur, Option.bind_some, hur, if_neg (show ¬ pv_b true = 0 by decide), hone (by omega), Option.bind_some, if_pos hix]
            simp only [lt9]
            rw [htwo, Option.bind_some, if_pos hix, hm2, ← hw9]
          · rw [hw9, pv_upw_n r2, pv_upw_n r3, h8r r r2 r3]
          · rw [hw9, pv_upw, if_neg fun h => hj h.2, pv_upw_n (by decide), pv_upw_n (by decide), pv_upw, if_neg fun h => hj h.2]
            exact h8j j hj
          · rw [hw9, pv_upw, if_pos ⟨rfl, rfl⟩]
            unfold pt_lo
            rw [if_pos hur]
          · rw [hw9, pv_upw_n (by decide), pv_upw, if_pos ⟨rfl, rfl⟩]
            unfold pt_ro
            rw [if_pos hur]
        · have hurf : pu_ur (P 9 i) = false := by simpa using hur
          have hro : pt_ro P i (pt_T P a0 i) = -1 := by unfold pt_ro; rw [if_neg hur]
          rw [hro]
          by_cases h19 : P 9 i = 19
          · have hp : pt_pop P i = 0 := by unfold pt_pop; rw [if_neg hur, if_pos h19]
            obtain ⟨t, q1, q2, q3⟩ := n2 h19
            have hlo : pt_lo P i (pt_T P a0 i) = pt_at (pt_T P a0 i) (t - 1) := by unfold pt_lo; rw [if_neg hur, if_pos h19, q1, pu_nn (by omega)]
            obtain ⟨l1, l2, l3, l4⟩ := hleft (pt_at (pt_T P a0 i) (t - 1))
            refine ⟨upw w8 2 i (pt_at (pt_T P a0 i) (t - 1)), ?_, l1, l2, by rw [l3, hlo], l4⟩
            refine (hstart _).trans ?_
            have hw := pv_waitingAt hst8 (by omega) q2 q3
            rw [hin, pv_ur, Option.bind_some, hurf, if_pos (show pv_b false = 0 by decide), if_pos h19, if_pos hix, q1, pv_sub q3, hw, Option.bind_some, if_pos hix, hp]
            rfl
          · by_cases h32 : P 9 i = 32
            · have hp : pt_pop P i = 0 := by unfold pt_pop; rw [if_neg hur, if_neg h19, if_pos h32]
              have hlo : pt_lo P i (pt_T P a0 i) = pt_at (pt_T P a0 i) 0 := by unfold pt_lo; rw [if_neg hur, if_neg h19, if_pos h32]
              obtain ⟨l1, l2, l3, l4⟩ := hleft (pt_at (pt_T P a0 i) 0)
              refine ⟨upw w8 2 i (pt_at (pt_T P a0 i) 0), ?_, l1, l2, by rw [l3, hlo], l4⟩
              refine (hstart _).trans ?_
              rw [hin, pv_ur, Option.bind_some, hurf, if_pos (show pv_b false = 0 by decide), if_neg h19, if_pos h32, hone (n3 h32), Option.bind_some, if_pos hix, hp]
              rfl
            · by_cases h1 : pt_one (P 9 i) = true
              · have hp : pt_pop P i = 1 := by unfold pt_pop; rw [if_neg hur, if_neg h19, if_neg h32, if_pos h1]
                have hlo : pt_lo P i (pt_T P a0 i) = pt_at (pt_T P a0 i) 0 := by unfold pt_lo; rw [if_neg hur, if_neg h19, if_neg h32, if_pos h1]
                rw [hp] at n1 ⊢
                have hm1 : pu_I (pt_T P a0 i).length + (-1) = pu_I ((pt_T P a0 i).length - 1) := by
                  have h2 : pu_I (pt_T P a0 i).length - 1 = pu_I (pt_T P a0 i).length + (-1) := Int32.sub_eq_add_neg _ _
                  rw [← h2, show (1 : Int32) = pu_I 1 from rfl, pv_sub n1]
                obtain ⟨l1, l2, l3, l4⟩ := hleft (pt_at (pt_T P a0 i) 0)
                refine ⟨upw w8 2 i (pt_at (pt_T P a0 i) 0), ?_, l1, l2, by rw [l3, hlo], l4⟩
                refine (hstart _).trans ?_
                rw [hin, pv_ur, Option.bind_some, hurf, if_pos (show pv_b false = 0 by decide), if_neg h19, if_neg h32, pv_takesOne, Option.bind_some, h1, if_neg (show ¬ pv_b true = 0 by decide), hone n1, Option.bind_some, if_pos hix, hm1]
                rfl
              · have h1f : pt_one (P 9 i) = false := by simpa using h1
                have hlo : pt_lo P i (pt_T P a0 i) = -1 := by unfold pt_lo; rw [if_neg hur, if_neg h19, if_neg h32, if_neg h1]
                refine ⟨w8, ?_, h8r, h8j, by rw [h82, hlo], h83⟩
                refine (hstart _).trans ?_
                rw [hin, pv_ur, Option.bind_some, hurf, if_pos (show pv_b false = 0 by decide), if_neg h19, if_neg h32, pv_takesOne, Option.bind_some, h1f, if_pos (show pv_b false = 0 by decide)]
                by_cases h20 : P 9 i = 20
                · obtain ⟨q0, t, q1, q2⟩ := n4 h20
                  have hp : pt_pop P i = t := by unfold pt_pop; rw [if_neg hur, if_neg h19, if_neg h32, if_neg h1, if_pos h20, q1, pu_nn (by omega)]
                  rw [hp] at n1 ⊢
                  rw [if_pos h20, if_pos hix, if_pos q0, q1, pv_sub n1]
                · have hp : pt_pop P i = 0 := by unfold pt_pop; rw [if_neg hur, if_neg h19, if_neg h32, if_neg h1, if_neg h20]
                  rw [if_neg h20, hp]
                  rfl
      obtain ⟨w3, p1, p2, p3, p4, p5⟩ := hpop
      have hdl : ((pt_T P a0 i).drop (pt_pop P i)).length = (pt_T P a0 i).length - pt_pop P i := List.length_drop
      have hst3 : pt_stk (w3 5) ((pt_T P a0 i).drop (pt_pop P i)) := by
        rw [p2 5 (by decide) (by decide)]
        exact pt_stk_drop _ _ s3
      rw [pv_lk192 (by omega) (by omega)] at p1
      have htab : ∀ j, a0 ≤ j → j < i + 1 → w3 2 j = pt_lo P j (pt_T P a0 j) ∧ w3 3 j = pt_ro P j (pt_T P a0 j) := by
        intro j j1 j2
        by_cases e : j = i
        · rw [e]; exact ⟨p4, p5⟩
        · rw [(p3 j e).1, (p3 j e).2]
          exact s4 j j1 (by omega)
      by_cases hg : pt_gv (P 9 i) = true
      · rw [if_pos hg] at p1
        have hT : pt_T P a0 (i + 1) = i :: (pt_T P a0 i).drop (pt_pop P i) := by rw [pt_T_s s5]; unfold pt_nx; rw [if_pos hg]
        refine ⟨(pu_I ((pt_T P a0 i).length - pt_pop P i + 1), upw w3 5 ((pt_T P a0 i).length - pt_pop P i) (pu_I i)), p1, ?_, fun r r2 r3 r5 => ?_, ?_, fun j j1 j2 => ?_, by omega⟩
        · show _ = pu_I (pt_T P a0 (i + 1)).length
          rw [hT, List.length_cons, hdl]
        · show upw w3 5 _ _ r = w r
          rw [pv_upw_n r5, p2 r r2 r3, s2 r r2 r3 r5]
        · show pt_stk (upw w3 5 _ _ 5) _
          rw [hT]
          refine ⟨?_, pt_stk_up _ _ (Nat.le_refl _) (fun z hz => ?_) hst3⟩
          · rw [pv_upw, if_pos ⟨rfl, hdl⟩]
          · rw [pv_upw, if_neg fun h => by omega]
        · have h9 := htab j j1 j2
          refine ⟨?_, ?_⟩
          · show upw w3 5 ((pt_T P a0 i).length - pt_pop P i) (pu_I i) 2 j = _
            rw [pv_upw_n (by decide)]
            exact h9.1
          · show upw w3 5 ((pt_T P a0 i).length - pt_pop P i) (pu_I i) 3 j = _
            rw [pv_upw_n (by decide)]
            exact h9.2
      · rw [if_neg hg] at p1
        have hT : pt_T P a0 (i + 1) = (pt_T P a0 i).drop (pt_pop P i) := by rw [pt_T_s s5]; unfold pt_nx; rw [if_neg hg]
        refine ⟨(pu_I ((pt_T P a0 i).length - pt_pop P i), w3), p1, ?_, fun r r2 r3 r5 => ?_, ?_, htab, by omega⟩
        · show _ = pu_I (pt_T P a0 (i + 1)).length
          rw [hT, hdl]
        · show w3 r = w r
          rw [p2 r r2 r3, s2 r r2 r3 r5]
        · show pt_stk (w3 5) _
          rw [hT]
          exact hst3)
    (by
      rintro k ⟨v, w2⟩ ⟨s1, s2, s3, s4, s5⟩
      refine ⟨w2, ?_, s2, s4⟩
      show (if ixb (pu_I f) 6 = true then (if (P 7 (nn (pu_I f))) ≤ pu_I a1 then some w2 else _) else none) = _
      rw [if_pos hfx, hfn, h7, if_pos (Int32.le_refl _)]) (a1 - a0) a0 NF (pu_I 0, w) (by omega) (by have := pv_NF; omega) ⟨by rw [pt_T_a P a0 a0 (Nat.le_refl _)]; rfl, fun r _ _ _ => rfl, by rw [pt_T_a P a0 a0 (Nat.le_refl _)]; exact trivial, fun j j1 j2 => absurd j1 (by omega), Nat.le_refl _⟩
  have e1 : fX4_linkOperands_L10 P (pu_I f) NF 0 (pu_I a0) w = some t := e1
  refine ⟨t, ?_, t1, t2⟩
  unfold fX4_linkOperands
  rw [if_pos hfx, hfn, h6, e1]
  rfl
end LK
