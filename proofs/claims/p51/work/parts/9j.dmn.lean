/-! pure side, stores 40: dominators -/
/-- what dominates by what dominates all that is ahead -/
def pv_nb (B : Nat) (w : ST) (l : SL) (c d : Nat) : Prop := d = c ∨ (d < B ∧ ∀ p, p < B → pv_eg w p c → pv_bt (l 16 p) d = true)
def pv_st9 (B : Nat) (w : ST) (l : SL) (d : Nat) : Prop := ∀ c, c < B → c ≠ 0 → pv_bt (l 16 c) d = true → pv_nb B w l c d
def pv_di (B : Nat) (w : ST) (l : SL) : Prop :=
  (∀ d, pv_bt (l 16 0) d = true ↔ d = 0) ∧ (∀ c, c < B → ∀ d, pv_bt (l 16 c) d = true → d < B) ∧
  (∀ X : Nat → Nat → Prop, (∀ d, X 0 d → d = 0) → (∀ p c d, p < B → c < B → c ≠ 0 → pv_eg w p c → X c d → d = c ∨ X p d) → ∀ c d, c < B → d < B → X c d → pv_bt (l 16 c) d = true) ∧
  (∀ c, c < B → c ≠ 0 → ∀ d, d < B → pv_nb B w l c d → pv_bt (l 16 c) d = true)
theorem pv_upl (l : SL) (r i q j : Nat) (v : Int64) : upl l r i v q j = if q = r ∧ j = i then v else l q j := by
  unfold upl
  by_cases h : q = r
  · rw [if_pos h]
    unfold vp_updL
    by_cases h2 : j = i
    · rw [if_pos h2, if_pos ⟨h, h2⟩]
    · rw [if_neg h2, if_neg fun c => h2 c.2, h]
  · rw [if_neg h, if_neg fun c => h c.1]
theorem pv_upl_n {l : SL} {r i q : Nat} {v : Int64} (h : q ≠ r) : upl l r i v q = l q := by
  funext j
  rw [pv_upl, if_neg fun c => h c.1]
section DM
variable {B : Nat} {w : ST} {wb : Nat → Nat}
theorem pv_di_self {l : SL} (hd : pv_di B w l) {d : Nat} (hdB : d < B) : pv_bt (l 16 d) d = true := by
  by_cases h0 : d = 0
  · subst h0
    exact (hd.1 0).mpr rfl
  · exact hd.2.2.2 d hdB h0 d hdB (Or.inl rfl)
/-- one block is reckoned anew -/
theorem pv_di_up {l : SL} (hd : pv_di B w l) {c : Nat} (hc : c < B) (hc0 : c ≠ 0) {x : Int64} (hx : ∀ d, pv_bt x d = true ↔ pv_nb B w l c d) :
    pv_di B w (upl l 16 c x) ∧ ∀ b d, b < B → pv_bt (upl l 16 c x 16 b) d = true → pv_bt (l 16 b) d = true := by
  obtain ⟨h1, h2, h3, h4⟩ := hd
  have hxl : ∀ d, pv_bt x d = true → pv_bt (l 16 c) d = true := by
    intro d h
    have h9 := (hx d).mp h
    rcases h9 with e | e
    · exact h4 c hc hc0 d (by omega) (Or.inl e)
    · exact h4 c hc hc0 d e.1 (Or.inr e)
  have hsub : ∀ b d, b < B → pv_bt (upl l 16 c x 16 b) d = true → pv_bt (l 16 b) d = true := by
    intro b d hb h
    rw [pv_upl] at h
    by_cases e : b = c
    · rw [if_pos ⟨rfl, e⟩] at h
      rw [e]
      exact hxl d h
    · rw [if_neg fun q => e q.2] at h
      exact h
  have hnb : ∀ b d, pv_nb B w (upl l 16 c x) b d → pv_nb B w l b d := by
    intro b d h
    rcases h with h | ⟨q1, q2⟩
    · exact Or.inl h
    · exact Or.inr ⟨q1, fun p hp he => hsub p d hp (q2 p hp he)⟩
  refine ⟨⟨fun d => ?_, fun b hb d h => h2 b hb d (hsub b d hb h), fun X X0 Xs b d hb hdB hX => ?_, fun b hb hb0 d hdB h => ?_⟩, hsub⟩
  · rw [pv_upl, if_neg fun q => hc0 q.2.symm]
    exact h1 d
  · rw [pv_upl]
    by_cases e : b = c
    · rw [if_pos ⟨rfl, e⟩, hx]
      rw [e] at hX
      by_cases e2 : d = c
      · exact Or.inl e2
      · exact Or.inr ⟨hdB, fun p hp he => h3 X X0 Xs p d hp hdB ((Xs p c d hp hc hc0 he hX).resolve_left e2)⟩
    · rw [if_neg fun q => e q.2]
      exact h3 X X0 Xs b d hb hdB hX
  · rw [pv_upl]
    by_cases e : b = c
    · rw [if_pos ⟨rfl, e⟩, hx]
      rw [e] at h
      exact hnb c d h
    · rw [if_neg fun q => e q.2]
      exact h4 b hb hb0 d hdB (hnb b d h)
/-- what all ways have in common -/
theorem pv_fd83 (hB : B ≤ 60) (hw0 : w 0 0 = pu_I B) (hw : pv_wys B w wb) {b : Nat} (hb : b < B) (l : SL) :
    ∃ o, fX8_findDominators_L83 w (pu_I b) l NF ((((1 : Int64) <<< (((w 0 0) : Int32).toInt64 &&& 63))) - (1 : Int64)) 0 = some o ∧ ∀ d, pv_bt o d = true ↔ (d < B ∧ ∀ p, p < B → pv_eg w p b → pv_bt (l 16 p) d = true) := by
  have h120 := hw.2.2.1 (b + 1) (by omega)
  have hmo := hw.2.1 b hb
  obtain ⟨o, e1, e2⟩ := pv_for (G := fun k x (v : Int64) => fX8_findDominators_L83 w (pu_I b) l k v x) (hi := wb (b + 1) - wb b)
    (Inv := fun i v => ∀ d, pv_bt v d = true ↔ (d < B ∧ ∀ j, wb b ≤ j → j < wb b + i → pv_bt (l 16 (nn (w 15 j))) d = true))
    (Q := fun v => ∀ d, pv_bt v d = true ↔ (d < B ∧ ∀ j, wb b ≤ j → j < wb b + (wb (b + 1) - wb b) → pv_bt (l 16 (nn (w 15 j))) d = true))
    (fun n i v hi hI => by
      obtain ⟨p, p1, p2, p3⟩ := hw.2.2.2.1 b (wb b + i) hb (by omega) (by omega)
      have hform : fX8_findDominators_L83 w (pu_I b) l (n + 1) v (pu_I i) = fX8_findDominators_L83 w (pu_I b) l n (v &&& l 16 p) (pu_I (i + 1)) := by
        show ((fX1_waysTo w (pu_I b)).bind fun (o_8 : Int32) => (if o_8 ≤ pu_I i then some v else ((fX1_wayFrom w (pu_I b) (pu_I i)).bind fun (o_11 : Int32) => (if ixb o_11 60 = true then ((fX8_findDominators_L83 w (pu_I b) l n) (v &&& (l 16 (nn o_11))) (pu_I i + 1)) else none)))) = _
        rw [pv_waysTo hB hw hb, Option.bind_some, if_neg (by rw [pu_le (by omega) (by omega)]; omega), pv_wayFrom hB hw hb (by omega), Option.bind_some, p2, if_pos ((pu_ix (by omega)).mpr (by omega)), pu_nn (by omega), pu_su]
      refine ⟨_, hform, fun d => ?_⟩
      rw [pv_bt_and, Bool.and_eq_true, hI d]
      constructor
      · rintro ⟨⟨q1, q2⟩, q3⟩
        refine ⟨q1, fun j j1 j2 => ?_⟩
        by_cases e : j = wb b + i
        · rw [e, p2, pu_nn (by omega)]
          exact q3
        · exact q2 j j1 (by omega)
      · rintro ⟨q1, q2⟩
        refine ⟨⟨q1, fun j j1 j2 => q2 j j1 (by omega)⟩, ?_⟩
        have h9 := q2 (wb b + i) (by omega) (by omega)
        rw [p2, pu_nn (by omega)] at h9
        exact h9)
    (fun n v hI => ⟨v, by
      show ((fX1_waysTo w (pu_I b)).bind fun (o_8 : Int32) => (if o_8 ≤ pu_I (wb (b + 1) - wb b) then some v else _)) = _
      rw [pv_waysTo hB hw hb, Option.bind_some, if_pos (Int32.le_refl _)], hI⟩)
    (wb (b + 1) - wb b) 0 NF ((((1 : Int64) <<< (((w 0 0) : Int32).toInt64 &&& 63))) - (1 : Int64)) (by omega) (by have := pv_NF; omega)
    (fun d => by
      rw [hw0, pv_bt_all hB, decide_eq_true_iff]
      exact ⟨fun h => ⟨h, fun j j1 j2 => by omega⟩, fun h => h.1⟩)
  refine ⟨o, e1, fun d => ?_⟩
  rw [e2 d]
  constructor
  · rintro ⟨q1, q2⟩
    refine ⟨q1, fun p hp he => ?_⟩
    obtain ⟨j, j1, j2, j3⟩ := hw.2.2.2.2.1 b p hb hp he
    have h9 := q2 j j1 (by omega)
    rw [j3, pu_nn (by omega)] at h9
    exact h9
  · rintro ⟨q1, q2⟩
    refine ⟨q1, fun j j1 j2 => ?_⟩
    obtain ⟨p, p1, p2, p3⟩ := hw.2.2.2.1 b j hb j1 (by omega)
    rw [p2, pu_nn (by omega)]
    exact q2 p p1 p3
/-- one round over all blocks -/
theorem pv_fd68 (hB0 : 0 < B) (hB : B ≤ 60) (hw0 : w 0 0 = pu_I B) (hw : pv_wys B w wb) {l0 : SL} (hd0 : pv_di B w l0) :
    ∃ f l', fX8_findDominators_L68 w NF 0 1 l0 = some (f, l') ∧ pv_di B w l' ∧ (∀ r, r ≠ 16 → l' r = l0 r) ∧ (f = 0 → ∀ c, c < B → l' 16 c = l0 16 c) ∧ (∀ c d, c < B → pv_bt (l' 16 c) d = true → pv_bt (l0 16 c) d = true) ∧
      (∀ d, d < B → (∀ c, c < B → pv_bt (l' 16 c) d = pv_bt (l0 16 c) d) → pv_st9 B w l' d) ∧ ((∀ d, d < B → pv_st9 B w l0 d) → f = 0) ∧ (∀ d, d < B → pv_st9 B w l0 d → ∀ c, c < B → pv_bt (l' 16 c) d = pv_bt (l0 16 c) d) := by
  obtain ⟨t, e1, h1, h2, h3, h4, h5, h6, h7⟩ := pv_for (G := fun k x (t : Int32 × SL) => fX8_findDominators_L68 w k t.1 x t.2) (hi := B)
    (Inv := fun k (t : Int32 × SL) => pv_di B w t.2 ∧ (∀ r, r ≠ 16 → t.2 r = l0 r) ∧ (t.1 = 0 → ∀ c, c < B → t.2 16 c = l0 16 c) ∧ (∀ c d, c < B → pv_bt (t.2 16 c) d = true → pv_bt (l0 16 c) d = true) ∧
      (∀ d, d < B → (∀ c, c < B → pv_bt (t.2 16 c) d = pv_bt (l0 16 c) d) → ∀ c, c < k → c < B → c ≠ 0 → pv_bt (t.2 16 c) d = true → pv_nb B w t.2 c d) ∧ ((∀ d, d < B → pv_st9 B w l0 d) → t.1 = 0) ∧ 1 ≤ k ∧ (∀ d, d < B → pv_st9 B w l0 d → ∀ c, c < B → pv_bt (t.2 16 c) d = pv_bt (l0 16 c) d))
    (Q := fun t : Int32 × SL => pv_di B w t.2 ∧ (∀ r, r ≠ 16 → t.2 r = l0 r) ∧ (t.1 = 0 → ∀ c, c < B → t.2 16 c = l0 16 c) ∧ (∀ c d, c < B → pv_bt (t.2 16 c) d = true → pv_bt (l0 16 c) d = true) ∧
      (∀ d, d < B → (∀ c, c < B → pv_bt (t.2 16 c) d = pv_bt (l0 16 c) d) → pv_st9 B w t.2 d) ∧ ((∀ d, d < B → pv_st9 B w l0 d) → t.1 = 0) ∧ (∀ d, d < B → pv_st9 B w l0 d → ∀ c, c < B → pv_bt (t.2 16 c) d = pv_bt (l0 16 c) d))
    (fun n k t hk hI => by
      obtain ⟨i1, i2, i3, i4, i5, i6, i7, i8⟩ := hI
      have hk0 : k ≠ 0 := by omega
      obtain ⟨o, o1, o2⟩ := pv_fd83 hB hw0 hw hk t.2
      have hx : ∀ d, pv_bt (o ||| ((1 : Int64) <<< ((pu_I k).toInt64 &&& 63))) d = true ↔ pv_nb B w t.2 k d := by
        intro d
        rw [pv_bt_or, pv_bt_1 (by omega), Bool.or_eq_true, o2 d, decide_eq_true_iff]
        unfold pv_nb
        exact Or.comm
      generalize hxg : (o ||| ((1 : Int64) <<< ((pu_I k).toInt64 &&& 63))) = x at *
      have h60 : ixb (pu_I k) 60 = true := (pu_ix (by omega)).mpr (by omega)
      have hform : fX8_findDominators_L68 w (n + 1) t.1 (pu_I k) t.2 = (if t.1 = 0 then (if lg_cmp x (t.2 16 k) = 0 then fX8_findDominators_L68 w n 0 (pu_I (k + 1)) (upl t.2 16 k x) else fX8_findDominators_L68 w n 1 (pu_I (k + 1)) (upl t.2 16 k x)) else fX8_findDominators_L68 w n 1 (pu_I (k + 1)) (upl t.2 16 k x)) := by
        show (if (w 0 0) ≤ pu_I k then some (t.1, t.2) else ((fX8_findDominators_L83 w (pu_I k) t.2 NF ((((1 : Int64) <<< (((w 0 0) : Int32).toInt64 &&& 63))) - (1 : Int64)) 0).bind fun (o83 : Int64) => (if t.1 = 0 then (if ixb (pu_I k) 60 = true then (if (lg_cmp (o83 ||| (((1 : Int64) <<< ((pu_I k : Int32).toInt64 &&& 63)))) (t.2 16 (nn (pu_I k)))) = 0 then (fX8_findDominators_J150 (fX8_findDominators_L68 w n) (pu_I k) t.2 o83 0) else (fX8_findDominators_J145 (fX8_findDominators_L68 w n) (pu_I k) t.2 o83)) else none) else (fX8_findDominators_J145 (fX8_findDominators_L68 w n) (pu_I k) t.2 o83)))) = _
        unfold fX8_findDominators_J145 fX8_findDominators_J150
        rw [o1, Option.bind_some, hxg, if_pos h60, pu_nn (by omega), hw0, if_neg (by rw [pu_le (by omega) (by omega)]; omega), pu_su]
        simp only [lt9, if_pos h60]
      obtain ⟨u1, u2⟩ := pv_di_up i1 hk hk0 hx
      -- the flag behind this block
      have hflag : ∃ f2 : Int32, fX8_findDominators_L68 w (n + 1) t.1 (pu_I k) t.2 = fX8_findDominators_L68 w n f2 (pu_I (k + 1)) (upl t.2 16 k x) ∧ (f2 = 0 → t.1 = 0 ∧ x = t.2 16 k) ∧ (t.1 = 0 → x = t.2 16 k → f2 = 0) := by
        rw [hform]
        by_cases c1 : t.1 = 0
        · rw [if_pos c1]
          by_cases c2 : lg_cmp x (t.2 16 k) = 0
          · rw [if_pos c2]
            exact ⟨0, rfl, fun _ => ⟨c1, (pv_cmp0 _ _).mp c2⟩, fun _ _ => rfl⟩
          · rw [if_neg c2]
            exact ⟨1, rfl, fun h => absurd h (by decide), fun _ h => absurd ((pv_cmp0 _ _).mpr h) c2⟩
        · rw [if_neg c1]
          exact ⟨1, rfl, fun h => absurd h (by decide), fun h => absurd h c1⟩
      obtain ⟨f2, f3, f4, f5⟩ := hflag
      have hsame : x = t.2 16 k → ∀ c, c < B → upl t.2 16 k x 16 c = t.2 16 c := by
        intro h c _
        rw [pv_upl]
        by_cases e : c = k
        · rw [if_pos ⟨rfl, e⟩, h, e]
        · rw [if_neg fun q => e q.2]
      -- a settled bit stays
      have hxb : ∀ d, d < B → pv_st9 B w l0 d → pv_bt x d = pv_bt (t.2 16 k) d := by
        intro d hdB hst
        have q2 := i8 d hdB hst
        have hnbe : pv_nb B w l0 k d → pv_nb B w t.2 k d := by
          rintro (h | ⟨a1, a2⟩)
          · exact Or.inl h
          · exact Or.inr ⟨a1, fun p hp he => by rw [q2 p hp]; exact a2 p hp he⟩
        cases hb : pv_bt (t.2 16 k) d with
        | true =>
          rw [q2 k hk] at hb
          exact (hx d).mpr (hnbe (hst k hk hk0 hb))
        | false =>
          cases hb2 : pv_bt x d with
          | false => rfl
          | true =>
            rw [i1.2.2.2 k hk hk0 d hdB ((hx d).mp hb2)] at hb
            cases hb
      refine ⟨(f2, upl t.2 16 k x), f3, u1, fun r hr => (pv_upl_n hr).trans (i2 r hr), fun h c hc => ?_, fun c d hc h => i4 c d hc (u2 c d hc h), fun d hdB heq c hck hc hc0 hbit => ?_, fun hst => ?_, by omega, fun d hdB hst c hc => ?_⟩
      · obtain ⟨q1, q2⟩ := f4 h
        exact (hsame q2 c hc).trans (i3 q1 c hc)
      · -- bit d has not changed in this round
        have heq2 : ∀ c, c < B → pv_bt (t.2 16 c) d = pv_bt (l0 16 c) d := by
          intro c hc
          have h9 : pv_bt (upl t.2 16 k x 16 c) d = pv_bt (l0 16 c) d := heq c hc
          cases hb : pv_bt (l0 16 c) d with
          | true =>
            rw [hb] at h9
            exact u2 c d hc h9
          | false =>
            cases hb2 : pv_bt (t.2 16 c) d with
            | false => rfl
            | true =>
              rw [i4 c d hc hb2] at hb
              cases hb
        have heq3 : ∀ c, c < B → pv_bt (upl t.2 16 k x 16 c) d = pv_bt (t.2 16 c) d := fun c hc => (heq c hc).trans (heq2 c hc).symm
        have hbit : pv_bt (upl t.2 16 k x 16 c) d = true := hbit
        have hnb2 : pv_nb B w t.2 c d → pv_nb B w (upl t.2 16 k x) c d := by
          intro h
          rcases h with h | ⟨q1, q2⟩
          · exact Or.inl h
          · exact Or.inr ⟨q1, fun p hp he => by rw [heq3 p hp]; exact q2 p hp he⟩
        by_cases e : c = k
        · rw [pv_upl, if_pos ⟨rfl, e⟩] at hbit
          rw [e] at hnb2 ⊢
          exact hnb2 ((hx d).mp hbit)
        · rw [heq3 c hc] at hbit
          exact hnb2 (i5 d hdB heq2 c (by omega) hc hc0 hbit)
      · have hxe : x = t.2 16 k := by
          refine pv_bt_ext fun d _ => ?_
          by_cases hdB : d < B
          · exact hxb d hdB (hst d hdB)
          · have e1 : pv_bt x d = false := by
              cases hb : pv_bt x d with
              | false => rfl
              | true =>
                rcases (hx d).mp hb with h | h
                · omega
                · exact absurd h.1 hdB
            have e2 : pv_bt (t.2 16 k) d = false := by
              cases hb : pv_bt (t.2 16 k) d with
              | false => rfl
              | true => exact absurd (i1.2.1 k hk d hb) hdB
            rw [e1, e2]
        exact f5 (i6 hst) hxe
      · show pv_bt (upl t.2 16 k x 16 c) d = _
        rw [pv_upl]
        by_cases e : c = k
        · rw [if_pos ⟨rfl, e⟩, hxb d hdB hst, e]
          exact i8 d hdB hst k hk
        · rw [if_neg fun q => e q.2]
          exact i8 d hdB hst c hc)
    (fun n t hI => ⟨t, by
      show (if (w 0 0) ≤ pu_I B then some (t.1, t.2) else _) = _
      rw [hw0, if_pos (Int32.le_refl _)], hI.1, hI.2.1, hI.2.2.1, hI.2.2.2.1, fun d hdB heq c hc hc0 hb => hI.2.2.2.2.1 d hdB heq c hc hc hc0 hb, hI.2.2.2.2.2.1, hI.2.2.2.2.2.2.2⟩)
    (B - 1) 1 NF (0, l0) (by omega) (by have := pv_NF; omega) ⟨hd0, fun r _ => rfl, fun _ c _ => rfl, fun c d _ h => h, fun d _ _ c h1 _ h0 => by omega, fun _ => rfl, Nat.le_refl _, fun d _ _ c _ => rfl⟩
  exact ⟨t.1, t.2, e1, h1, h2, h3, h4, h5, h6, h7⟩
def pv_uc (B : Nat) (l : SL) (d : Nat) : Nat := ((List.range B).filter (fun c => !pv_bt (l 16 c) d)).length
theorem pv_uc_le {l : SL} (hd : pv_di B w l) {d : Nat} (hdB : d < B) : pv_uc B l d < B := by
  have h := pv_flt_lt (p := fun _ => true) (q := fun c => !pv_bt (l 16 c) d) (List.range B) (fun _ _ _ => rfl) ⟨d, List.mem_range.mpr hdB, rfl, by rw [pv_di_self hd hdB]; rfl⟩
  have e : (List.range B).filter (fun _ => true) = List.range B := List.filter_eq_self.mpr fun _ _ => rfl
  rw [e, List.length_range] at h
  exact h
/-- rounds to the end -/
theorem pv_fd50 (hB0 : 0 < B) (hB : B ≤ 60) (hw0 : w 0 0 = pu_I B) (hw : pv_wys B w wb) :
    ∀ (m n k : Nat) (f : Int32) (l : SL), n + m = B + 1 → m < k → pv_di B w l → (∀ d, d < B → pv_st9 B w l d ∨ n ≤ pv_uc B l d) → (f = 0 → ∀ d, d < B → pv_st9 B w l d) → (f ≠ 0 → n ≤ B) →
      ∃ l', fX8_findDominators_L50 w k f (pu_I n) l = some l' ∧ pv_di B w l' ∧ (∀ r, r ≠ 16 → l' r = l r) ∧ ∀ d, d < B → pv_st9 B w l' d := by
  intro m
  induction m with
  | zero =>
    intro n k f l hn hk hd _ h0 h1
    obtain ⟨k', rfl⟩ : ∃ k', k = k' + 1 := ⟨k - 1, by omega⟩
    by_cases hf : f = 0
    · refine ⟨l, ?_, hd, fun r _ => rfl, h0 hf⟩
      show (if f = 0 then some l else _) = _
      rw [if_pos hf]
    · have := h1 hf
      omega
  | succ m ih =>
    intro n k f l hn hk hd hu h0 h1
    obtain ⟨k', rfl⟩ : ∃ k', k = k' + 1 := ⟨k - 1, by omega⟩
    by_cases hf : f = 0
    · refine ⟨l, ?_, hd, fun r _ => rfl, h0 hf⟩
      show (if f = 0 then some l else _) = _
      rw [if_pos hf]
    · obtain ⟨f2, l2, e1, e2, e3, e4, e5, e6, e7, e8⟩ := pv_fd68 hB0 hB hw0 hw hd
      have hnB := h1 hf
      have hmono : ∀ d, d < B → pv_st9 B w l2 d ∨ n + 1 ≤ pv_uc B l2 d := by
        intro d hdB
        by_cases hall : ∀ c, c < B → pv_bt (l2 16 c) d = pv_bt (l 16 c) d
        · exact Or.inl (e6 d hdB hall)
        · rcases hu d hdB with hs | hs
          · exact absurd (e8 d hdB hs) hall
          · obtain ⟨c, hc⟩ := Classical.not_forall.mp hall
            obtain ⟨hcB, hc⟩ := Classical.not_imp.mp hc
            have hb : pv_bt (l 16 c) d = true ∧ pv_bt (l2 16 c) d = false := by
              cases hb1 : pv_bt (l2 16 c) d with
              | true => rw [hb1, e5 c d hcB hb1] at hc; exact absurd rfl hc
              | false =>
                cases hb2 : pv_bt (l 16 c) d with
                | true => exact ⟨rfl, rfl⟩
                | false => rw [hb1, hb2] at hc; exact absurd rfl hc
            have hlt : pv_uc B l d < pv_uc B l2 d := by
              refine pv_flt_lt _ (fun x hx h => ?_) ⟨c, List.mem_range.mpr hcB, by rw [hb.2]; rfl, by rw [hb.1]; rfl⟩
              cases hb3 : pv_bt (l2 16 x) d with
              | false => rfl
              | true =>
                rw [e5 x d (List.mem_range.mp hx) hb3] at h
                cases h
            exact Or.inr (by omega)
      have hf0 : f2 = 0 → ∀ d, d < B → pv_st9 B w l2 d := fun h d hdB => e6 d hdB fun c hc => by rw [e4 h c hc]
      have hf1 : f2 ≠ 0 → n + 1 ≤ B := by
        intro h
        by_cases e : n = B
        · exfalso
          refine h (e7 fun d hdB => ?_)
          rcases hu d hdB with hs | hs
          · exact hs
          · have := pv_uc_le hd hdB
            omega
        · omega
      obtain ⟨l', q1, q2, q3, q4⟩ := ih (n + 1) k' f2 l2 (by omega) (by omega) e2 hmono hf0 hf1
      refine ⟨l', ?_, q2, fun r hr => by rw [q3 r hr, e3 r hr], q4⟩
      show (if f = 0 then some l else (if 60 < pu_I n then some l else ((fX8_findDominators_L68 w NF 0 1 l).bind fun (o68 : Int32 × SL) => ((fX8_findDominators_L50 w k') (o68.1) (pu_I n + 1) (o68.2))))) = _
      rw [if_neg hf, if_neg (by rw [show (60 : Int32) = pu_I 60 from rfl, pu_lt (by decide) (by omega)]; omega), e1, Option.bind_some, pu_su, q1]
/-- the nearest of those that dominate -/
theorem pv_nearest (hB : B ≤ 60) (x : Int64) : ∀ (k n : Nat), k ≤ 60 → k < n → ∃ t, fX8_nearest_L4 x n (pu_I k + (-1)) = some t ∧ ((t = Sum.inr () ∧ ∀ e, e < k → pv_bt x e = false) ∨ ∃ d, d < k ∧ t = Sum.inl (pu_I d) ∧ pv_bt x d = true ∧ ∀ e, d < e → e < k → pv_bt x e = false) := by
  intro k
  induction k with
  | zero =>
    intro n _ hn
    obtain ⟨n', rfl⟩ : ∃ n', n = n' + 1 := ⟨n - 1, by omega⟩
    exact ⟨Sum.inr (), rfl, Or.inl ⟨rfl, fun e he => by omega⟩⟩
  | succ k ih =>
    intro n hk hn
    obtain ⟨n', rfl⟩ : ∃ n', n = n' + 1 := ⟨n - 1, by omega⟩
    have hm1 : pu_I (k + 1) + (-1) = pu_I k := by
      rw [← pu_su, Int32.add_assoc]
      show pu_I k + 0 = _
      exact Int32.add_zero _
    have hform : fX8_nearest_L4 x (n' + 1) (pu_I k) = (if pv_b (pv_bt x k) = 0 then fX8_nearest_L4 x n' (pu_I k + (-1)) else some (Sum.inl (pu_I k))) := by
      show (if pu_I k < 0 then some (Sum.inr ()) else ((fX11_holds x (pu_I k)).bind fun (o_2 : Int32) => (if o_2 = 0 then ((fX8_nearest_L4 x n') (pu_I k + (-1))) else some (Sum.inl (pu_I k))))) = _
      rw [if_neg (pu_ge (by omega)), pv_holds (by omega), Option.bind_some]
    rw [hm1, hform]
    cases hb : pv_bt x k with
    | true =>
      rw [if_neg (by decide)]
      exact ⟨_, rfl, Or.inr ⟨k, by omega, rfl, hb, fun e h1 h2 => by omega⟩⟩
    | false =>
      rw [if_pos (by decide)]
      obtain ⟨t, t1, t2⟩ := ih n' (by omega) (by omega)
      refine ⟨t, t1, ?_⟩
      rcases t2 with ⟨h1, h2⟩ | ⟨d, h1, h2, h3, h4⟩
      · refine Or.inl ⟨h1, fun e he => ?_⟩
        by_cases e9 : e = k
        · rw [e9]; exact hb
        · exact h2 e (by omega)
      · refine Or.inr ⟨d, by omega, h2, h3, fun e q1 q2 => ?_⟩
        by_cases e9 : e = k
        · rw [e9]; exact hb
        · exact h4 e q1 (by omega)
theorem pv_findDominators (hB0 : 0 < B) (hB : B ≤ 60) (hw0 : w 0 0 = pu_I B) (hw : pv_wys B w wb) (l : SL) :
    ∃ w' l', fX8_findDominators w l = some (w', l') ∧ (∀ r, r ≠ 12 → w' r = w r) ∧ (∀ r, r ≠ 16 → l' r = l r) ∧ pv_di B w l' ∧ (∀ d, d < B → pv_st9 B w l' d) ∧
      (∀ b, b < B → (w' 12 b = -1 ∧ ∀ e, e < b → pv_bt (l' 16 b) e = false) ∨ ∃ d, d < b ∧ w' 12 b = pu_I d ∧ pv_bt (l' 16 b) d = true ∧ ∀ e, d < e → e < b → pv_bt (l' 16 b) e = false) := by
  obtain ⟨l1, a1, a2, a3⟩ := pv_for (G := fun k x (t : SL) => fX8_findDominators_L12 w k x t) (hi := B)
    (Inv := fun k t => (∀ r, r ≠ 16 → t r = l r) ∧ ∀ b, b < k → ∀ d, pv_bt (t 16 b) d = true ↔ (if b = 0 then d = 0 else d < B))
    (Q := fun t => (∀ r, r ≠ 16 → t r = l r) ∧ ∀ b, b < B → ∀ d, pv_bt (t 16 b) d = true ↔ (if b = 0 then d = 0 else d < B))
    (fun n k t hk hI => by
      have h60 : ixb (pu_I k) 60 = true := (pu_ix (by omega)).mpr (by omega)
      have hform : fX8_findDominators_L12 w (n + 1) (pu_I k) t = fX8_findDominators_L12 w n (pu_I (k + 1)) (upl t 16 k (if pu_I k = 0 then 1 else ((((1 : Int64) <<< (((pu_I B) : Int32).toInt64 &&& 63))) - (1 : Int64)))) := by
        show (if (w 0 0) ≤ pu_I k then some t else (if pu_I k = 0 then (fX8_findDominators_J37 (fX8_findDominators_L12 w n) (pu_I k) t 1 (pu_I k)) else (fX8_findDominators_J37 (fX8_findDominators_L12 w n) (pu_I k) t ((((1 : Int64) <<< (((w 0 0) : Int32).toInt64 &&& 63))) - (1 : Int64)) (pu_I k)))) = _
        unfold fX8_findDominators_J37
        rw [hw0, if_neg (by rw [pu_le (by omega) (by omega)]; omega), if_pos h60, pu_nn (by omega), pu_su, if_pos h60]
        simp only [lt9]
        by_cases h0 : pu_I k = 0
        · rw [if_pos h0, if_pos h0]
        · rw [if_neg h0, if_neg h0]
      refine ⟨_, hform, fun r hr => by rw [pv_upl_n hr, hI.1 r hr], fun b hb d => ?_⟩
      rw [pv_upl]
      by_cases e : b = k
      · rw [if_pos ⟨rfl, e⟩, e]
        by_cases h0 : k = 0
        · subst h0
          have h00 : pu_I 0 = 0 := rfl
          rw [if_pos rfl, if_pos h00, pv_bt_one, decide_eq_true_iff]
        · have h00 : ¬ pu_I k = 0 := fun c => h0 (pu_inj (b := 0) (by omega) (by decide) c)
          rw [if_neg h0, if_neg h00, pv_bt_all hB, decide_eq_true_iff]
      · rw [if_neg fun q => e q.2]
        exact hI.2 b (by omega) d)
    (fun n t hI => ⟨t, by
      show (if (w 0 0) ≤ pu_I B then some t else _) = _
      rw [hw0, if_pos (Int32.le_refl _)], hI⟩)
    B 0 NF l (by omega) (by have := pv_NF; omega) ⟨fun r _ => rfl, fun b hb => by omega⟩
  have a1 : fX8_findDominators_L12 w NF 0 l = some l1 := a1
  have hd1 : pv_di B w l1 := by
    refine ⟨fun d => by rw [a3 0 hB0 d, if_pos rfl], fun c hc d h => ?_, fun X X0 Xs c d hc hdB hX => ?_, fun c hc hc0 d hdB _ => by rw [a3 c hc d, if_neg hc0]; exact hdB⟩
    · rw [a3 c hc d] at h
      by_cases h0 : c = 0
      · rw [if_pos h0] at h; omega
      · rw [if_neg h0] at h; exact h
    · rw [a3 c hc d]
      by_cases h0 : c = 0
      · rw [if_pos h0]
        rw [h0] at hX
        exact X0 d hX
      · rw [if_neg h0]; exact hdB
  obtain ⟨l2, b1, b2, b3, b4⟩ := pv_fd50 hB0 hB hw0 hw (B + 1) 0 NF 1 l1 (by omega) (by have := pv_NF; omega) hd1 (fun d _ => Or.inr (Nat.zero_le _)) (fun h => absurd h (by decide)) (fun _ => Nat.zero_le _)
  have b1 : fX8_findDominators_L50 w NF 1 0 l1 = some l2 := b1
  obtain ⟨w2, c1, c2, c3⟩ := pv_for (G := fun k x (t : ST) => fX8_findDominators_L176 l2 k x t) (hi := B)
    (Inv := fun k t => (∀ r, r ≠ 12 → t r = w r) ∧ ∀ b, b < k → (t 12 b = -1 ∧ ∀ e, e < b → pv_bt (l2 16 b) e = false) ∨ ∃ d, d < b ∧ t 12 b = pu_I d ∧ pv_bt (l2 16 b) d = true ∧ ∀ e, d < e → e < b → pv_bt (l2 16 b) e = false)
    (Q := fun t => (∀ r, r ≠ 12 → t r = w r) ∧ ∀ b, b < B → (t 12 b = -1 ∧ ∀ e, e < b → pv_bt (l2 16 b) e = false) ∨ ∃ d, d < b ∧ t 12 b = pu_I d ∧ pv_bt (l2 16 b) d = true ∧ ∀ e, d < e → e < b → pv_bt (l2 16 b) e = false)
    (fun n k t hk hI => by
      have h60 : ixb (pu_I k) 60 = true := (pu_ix (by omega)).mpr (by omega)
      obtain ⟨o, o1, o2⟩ := pv_nearest hB (l2 16 k) k NF (by omega) (by have := pv_NF; omega)
      have hsub : pu_I k - 1 = pu_I k + (-1) := Int32.sub_eq_add_neg _ _
      have hnear : fX8_nearest (l2 16 k) (pu_I k) = some (Sum.elim (fun r => r) (fun (_ : Unit) => (-1 : Int32)) o) := by
        unfold fX8_nearest
        rw [hsub, o1, Option.bind_some]
        cases o <;> rfl
      refine ⟨upw t 12 k (Sum.elim (fun r => r) (fun (_ : Unit) => (-1 : Int32)) o), ?_, fun r hr => by rw [pv_upw_n hr, hI.1 r hr], fun b hb => ?_⟩
      · show (if (t 0 0) ≤ pu_I k then some t else (if ixb (pu_I k) 60 = true then ((fX8_nearest (l2 16 (nn (pu_I k))) (pu_I k)).bind fun (o_21 : Int32) => (if ixb (pu_I k) 60 = true then (lt9 (upw t 12 (nn (pu_I k)) o_21) fun (w24 : ST) => ((fX8_findDominators_L176 l2 n) (pu_I k + 1) w24)) else none)) else none)) = _
        rw [hI.1 0 (by decide), hw0, if_neg (by rw [pu_le (by omega) (by omega)]; omega), if_pos h60, pu_nn (by omega), hnear, Option.bind_some, if_pos h60, pu_su]
        simp only [lt9]
      · rw [pv_upw]
        by_cases e : b = k
        · rw [if_pos ⟨rfl, e⟩, e]
          rcases o2 with ⟨rfl, h2⟩ | ⟨d, h1, rfl, h3, h4⟩
          · exact Or.inl ⟨rfl, h2⟩
          · exact Or.inr ⟨d, h1, rfl, h3, h4⟩
        · rw [if_neg fun q => e q.2]
          exact hI.2 b (by omega))
    (fun n t hI => ⟨t, by
      show (if (t 0 0) ≤ pu_I B then some t else _) = _
      rw [hI.1 0 (by decide), hw0, if_pos (Int32.le_refl _)], hI⟩)
    B 0 NF w (by omega) (by have := pv_NF; omega) ⟨fun r _ => rfl, fun b hb => by omega⟩
  have c1 : fX8_findDominators_L176 l2 NF 0 w = some w2 := c1
  refine ⟨w2, l2, ?_, c2, fun r hr => by rw [b3 r hr, a2 r hr], b2, b4, c3⟩
  unfold fX8_findDominators
  rw [a1, Option.bind_some, b1, Option.bind_some, c1, Option.bind_some]
end DM
