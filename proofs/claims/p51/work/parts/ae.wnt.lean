/-! pure side, the maker 13: where a variable is wanted -/
def pt_in (W : Int64) (x : Int32) : Bool := !decide (x < 0) && pv_bt W (nn x)
theorem pv_isIn {W : Int64} {x : Int32} (h : x < 0 ∨ ∃ c, c < 60 ∧ x = pu_I c) : fX4_isIn W x = some (pv_b (pt_in W x)) := by
  unfold fX4_isIn fX4_isIn_J16 fX4_isIn_J17 pt_in
  by_cases h0 : x < 0
  · rw [if_pos h0, decide_eq_true h0, if_pos (Or.inl rfl)]
    rfl
  · obtain ⟨c, c1, rfl⟩ := h.resolve_left h0
    rw [if_neg h0, decide_eq_false h0, pv_holds (by omega), Option.bind_some, pu_nn (by omega)]
    cases pv_bt W c with
    | true =>
      rw [if_neg (show ¬ pv_b true = 0 by decide), if_pos (Or.inr rfl)]
      rfl
    | false =>
      rw [if_pos (show pv_b false = 0 by decide), if_pos (Or.inl rfl)]
      rfl
theorem pt_in_eg {W : Int64} {w : ST} {b : Nat} (hB : ∀ i, pv_bt W i = true → i < 60) : (pt_in W (w 10 b) = true ∨ pt_in W (w 11 b) = true) ↔ ∃ c, pv_eg w b c ∧ pv_bt W c = true := by
  have key : ∀ x : Int32, pt_in W x = true ↔ ∃ c, x = pu_I c ∧ pv_bt W c = true := by
    intro x
    unfold pt_in
    by_cases h0 : x < 0
    · rw [decide_eq_true h0]
      refine ⟨fun h => (by cases h), fun ⟨c, h1, h2⟩ => ?_⟩
      have := hB c h2
      rw [h1] at h0
      exact absurd h0 (pu_ge (by omega))
    · rw [decide_eq_false h0]
      refine ⟨fun h => ⟨nn x, pu_of h0, by simpa using h⟩, fun ⟨c, h1, h2⟩ => ?_⟩
      have := hB c h2
      rw [h1, pu_nn (by omega), h2]
      rfl
  rw [key, key]
  constructor
  · rintro (⟨c, h1, h2⟩ | ⟨c, h1, h2⟩)
    · exact ⟨c, Or.inl h1, h2⟩
    · exact ⟨c, Or.inr h1, h2⟩
  · rintro ⟨c, h1 | h1, h2⟩
    · exact Or.inl ⟨c, h1, h2⟩
    · exact Or.inr ⟨c, h1, h2⟩
section WA
variable {l : SL} {w : ST} {B v : Nat}
/-- closed: what leads to the set without an assignment is in it -/
def pt_wcl (l : SL) (w : ST) (B v : Nat) (X : Nat → Prop) : Prop := (∀ b, b < B → pv_bt (l 16 v) b = true → X b) ∧ (∀ b c, b < B → pv_eg w b c → X c → ¬ pv_bt (l 17 v) b = true → X b)
theorem pv_wanted46 (hB0 : 0 < B) (hB : B ≤ 60) (hsv : pv_sv B w) (hv : v < 320) (V : Int64) (hV : ∀ i, pv_bt V i = true → i < B) :
    ∃ V', fX4_wantedAt_L46 l w (pu_I v) NF V (pu_I B - 1) = some V' ∧ pt_sub V V' ∧ (∀ i, pv_bt V' i = true → i < B) ∧ (∀ X : Nat → Prop, pt_wcl l w B v X → (∀ i, pv_bt V i = true → X i) → ∀ i, pv_bt V' i = true → X i) ∧
      (∀ b c, b < B → pv_eg w b c → pv_bt V c = true → ¬ pv_bt (l 17 v) b = true → pv_bt V' b = true) := by
  obtain ⟨t, e1, t1, t2, t3, t4⟩ := pv_down (G := fun k x (s : Int64) => fX4_wantedAt_L46 l w (pu_I v) k s x)
    (Inv := fun k s => k ≤ B ∧ pt_sub V s ∧ (∀ i, pv_bt s i = true → i < B) ∧ (∀ X : Nat → Prop, pt_wcl l w B v X → (∀ i, pv_bt V i = true → X i) → ∀ i, pv_bt s i = true → X i) ∧ (∀ b c, k ≤ b → b < B → pv_eg w b c → pv_bt V c = true → ¬ pv_bt (l 17 v) b = true → pv_bt s b = true))
    (Q := fun s => pt_sub V s ∧ (∀ i, pv_bt s i = true → i < B) ∧ (∀ X : Nat → Prop, pt_wcl l w B v X → (∀ i, pv_bt V i = true → X i) → ∀ i, pv_bt s i = true → X i) ∧ (∀ b c, b < B → pv_eg w b c → pv_bt V c = true → ¬ pv_bt (l 17 v) b = true → pv_bt s b = true))
    (by
      rintro k b s ⟨i0, i1, i2, i3, i4⟩
      have hbB : b < B := by omega
      have h60 : ixb (pu_I b) 60 = true := (pu_ix (by omega)).mpr (by omega)
      have hbn : nn (pu_I b) = b := pu_nn (by omega)
      have hs60 : ∀ i, pv_bt s i = true → i < 60 := fun i hi => by have := i2 i hi; omega
      have hsx : ∀ x : Int32, (x < 0 ∨ ∃ c, c < B ∧ x = pu_I c) → x < 0 ∨ ∃ c, c < 60 ∧ x = pu_I c := fun x h => h.imp id fun ⟨c, c1, c2⟩ => ⟨c, by omega, c2⟩
      have hform : fX4_wantedAt_L46 l w (pu_I v) (k + 1) s (pu_I b) = (if (pt_in s (w 10 b) = true ∨ pt_in s (w 11 b) = true) ∧ ¬ pv_bt (l 17 v) b = true then fX4_wantedAt_L46 l w (pu_I v) k (s ||| ((1 : Int64) <<< ((pu_I b).toInt64 &&& 63))) (pu_I b + (-1)) else fX4_wantedAt_L46 l w (pu_I v) k s (pu_I b + (-1))) := by
        have h84 : ∀ y : Bool, fX4_wantedAt_J84 (fX4_wantedAt_L46 l w (pu_I v) k) l (pu_I v) s (pu_I b) (pv_b y) = (if y = true ∧ ¬ pv_bt (l 17 v) b = true then fX4_wantedAt_L46 l w (pu_I v) k (s ||| ((1 : Int64) <<< ((pu_I b).toInt64 &&& 63))) (pu_I b + (-1)) else fX4_wantedAt_L46 l w (pu_I v) k s (pu_I b + (-1))) := by
          intro y
          unfold fX4_wantedAt_J84 fX4_wantedAt_J112
          cases y with
          | false => rw [if_pos (show pv_b false = 0 by decide), if_neg (fun h => (by cases h.1))]
          | true =>
            rw [if_neg (show ¬ pv_b true = 0 by decide), if_pos ((pu_ix (by omega)).mpr hv), pu_nn (by omega), pv_holds (by omega), Option.bind_some]
            cases h9 : pv_bt (l 17 v) b with
            | true => rw [if_neg (show ¬ pv_b true = 0 by decide), if_neg (fun h => h.2 rfl)]
            | false => rw [if_pos (show pv_b false = 0 by decide), if_pos ⟨rfl, by decide⟩]
        have h79 : fX4_wantedAt_J79 (fX4_wantedAt_L46 l w (pu_I v) k) l (pu_I v) s (pu_I b) = _ := h84 true
        have h840 := h84 false
        have h840 : fX4_wantedAt_J84 (fX4_wantedAt_L46 l w (pu_I v) k) l (pu_I v) s (pu_I b) 0 = _ := h840
        show (if pu_I b < 0 then some s else (if ixb (pu_I b) 60 = true then ((fX4_isIn s (w 10 (nn (pu_I b)))).bind fun (o_6 : Int32) => (if o_6 = 0 then (if ixb (pu_I b) 60 = true then ((fX4_isIn s (w 11 (nn (pu_I b)))).bind fun (o_15 : Int32) => (if o_15 = 0 then (fX4_wantedAt_J84 (fX4_wantedAt_L46 l w (pu_I v) k) l (pu_I v) s (pu_I b) 0) else (fX4_wantedAt_J79 (fX4_wantedAt_L46 l w (pu_I v) k) l (pu_I v) s (pu_I b)))) else none) else (fX4_wantedAt_J79 (fX4_wantedAt_L46 l w (pu_I v) k) l (pu_I v) s (pu_I b)))) else none)) = _
        rw [if_neg (pu_ge (by omega)), if_pos h60, hbn, pv_isIn (hsx _ (hsv b hbB).1), Option.bind_some, if_pos h60, pv_isIn (hsx _ (hsv b hbB).2), Option.bind_some, h79, h840]
        cases pt_in s (w 10 b) with
        | true =>
          rw [if_neg (show ¬ pv_b true = 0 by decide)]
          by_cases h9 : ¬ pv_bt (l 17 v) b = true
          · rw [if_pos ⟨rfl, h9⟩, if_pos ⟨Or.inl rfl, h9⟩]
          · rw [if_neg fun h => h9 h.2, if_neg fun h => h9 h.2]
        | false =>
          rw [if_pos (show pv_b false = 0 by decide)]
          cases pt_in s (w 11 b) with
          | true =>
            rw [if_neg (show ¬ pv_b true = 0 by decide)]
            by_cases h9 : ¬ pv_bt (l 17 v) b = true
            · rw [if_pos ⟨rfl, h9⟩, if_pos ⟨Or.inr rfl, h9⟩]
            · rw [if_neg fun h => h9 h.2, if_neg fun h => h9 h.2]
          | false =>
            rw [if_pos (show pv_b false = 0 by decide), if_neg (fun h => (by cases h.1)), if_neg (fun h => by
              rcases h.1 with h | h <;> cases h)]
      by_cases hc0 : (pt_in s (w 10 b) = true ∨ pt_in s (w 11 b) = true) ∧ ¬ pv_bt (l 17 v) b = true
      · rw [if_pos hc0] at hform
        have hc : (∃ c, pv_eg w b c ∧ pv_bt s c = true) ∧ ¬ pv_bt (l 17 v) b = true := ⟨(pt_in_eg hs60).mp hc0.1, hc0.2⟩
        refine ⟨_, hform, by omega, fun i hi => (pv_orb (by omega)).mpr (Or.inl (i1 i hi)), fun i hi => ?_, fun X hX hVX i hi => ?_, fun b' c' k1 k2 k3 k4 k5 => ?_⟩
        · rcases (pv_orb (by omega)).mp hi with h | h
          · exact i2 i h
          · omega
        · rcases (pv_orb (by omega)).mp hi with h | h
          · exact i3 X hX hVX i h
          · obtain ⟨⟨c, c1, c2⟩, c3⟩ := hc
            rw [h]
            exact hX.2 b c hbB c1 (i3 X hX hVX c c2) c3
        · by_cases e : b' = b
          · exact (pv_orb (by omega)).mpr (Or.inr e)
          · exact (pv_orb (by omega)).mpr (Or.inl (i4 b' c' (by omega) k2 k3 k4 k5))
      · rw [if_neg hc0] at hform
        have hc : ¬ ((∃ c, pv_eg w b c ∧ pv_bt s c = true) ∧ ¬ pv_bt (l 17 v) b = true) := fun h => hc0 ⟨(pt_in_eg hs60).mpr h.1, h.2⟩
        refine ⟨s, hform, by omega, i1, i2, i3, fun b' c' k1 k2 k3 k4 k5 => ?_⟩
        by_cases e : b' = b
        · rw [e] at k3 k5
          exact absurd ⟨⟨c', k3, i1 c' k4⟩, k5⟩ hc
        · exact i4 b' c' (by omega) k2 k3 k4 k5)
    (by
      rintro k x s hx ⟨i0, i1, i2, i3, i4⟩
      refine ⟨s, ?_, i1, i2, i3, fun b c hb h1 h2 h3 => i4 b c (Nat.zero_le _) hb h1 h2 h3⟩
      show (if x < 0 then some s else _) = _
      rw [if_pos hx]) B NF V (by have := pv_NF; omega) (by omega) ⟨Nat.le_refl _, fun i h => h, hV, fun X _ h => h, fun b c h1 h2 => absurd h1 (by omega)⟩
  refine ⟨t, ?_, t1, t2, t3, t4⟩
  rw [Int32.sub_eq_add_neg]
  exact e1
end WA
