/-! pure side, the maker 4: the pieces that can be reached -/
/-- how many ways lead from pieces to a piece -/
def pt_wy (F G : Nat → Int32) : List Nat → Nat → Nat
  | [], _ => 0
  | x :: l, p => ((if F x = pu_I p then 1 else 0) + (if G x = pu_I p then 1 else 0)) + pt_wy F G l p
theorem pt_wy_app (F G : Nat → Int32) (l m : List Nat) (p : Nat) : pt_wy F G (l ++ m) p = pt_wy F G l p + pt_wy F G m p := by
  induction l with
  | nil => exact (Nat.zero_add _).symm
  | cons x l ih =>
    show _ + pt_wy F G (l ++ m) p = (_ + pt_wy F G l p) + _
    rw [ih]
    exact (Nat.add_assoc _ _ _).symm
theorem pt_wy_le (F G : Nat → Int32) (l : List Nat) (p : Nat) : pt_wy F G l p ≤ 2 * l.length := by
  induction l with
  | nil => exact Nat.le_refl _
  | cons x l ih =>
    show ((if F x = pu_I p then 1 else 0) + (if G x = pu_I p then 1 else 0)) + pt_wy F G l p ≤ 2 * (l.length + 1)
    have h1 : (if F x = pu_I p then 1 else 0 : Nat) ≤ 1 := by
      by_cases h : F x = pu_I p
      · rw [if_pos h]; exact Nat.le_refl _
      · rw [if_neg h]; exact Nat.zero_le _
    have h2 : (if G x = pu_I p then 1 else 0 : Nat) ≤ 1 := by
      by_cases h : G x = pu_I p
      · rw [if_pos h]; exact Nat.le_refl _
      · rw [if_neg h]; exact Nat.zero_le _
    omega
/-- where ways of pieces lead -/
def pt_fg (K : Nat) (F : Nat → Int32) : Prop := ∀ p, p < K → F p < 0 ∨ ∃ q, q < K ∧ F p = pu_I q
section RP
variable {K : Nat} {w0 : ST}
def pt_ri (K : Nat) (w0 : ST) (fl : List Nat) (wy : Nat → Nat) (w : ST) : Prop :=
  (∀ r, r ≠ 11 → r ≠ 12 → r ≠ 14 → w r = w0 r) ∧ (fl.Nodup ∧ (∀ p ∈ fl, p < K) ∧ fl[0]? = some 0) ∧ (∀ n p, fl[n]? = some p → w 14 n = pu_I p ∧ w 12 p = pu_I n) ∧ (∀ p, p < K → p ∉ fl → w 12 p < 0) ∧ (∀ p, p < K → w 11 p = pu_I (wy p))
theorem pv_reachOne {w : ST} {fl : List Nat} {wy : Nat → Nat} {x : Int32} (hK : K ≤ 640) (h5 : w0 0 5 = pu_I K) (hI : pt_ri K w0 fl wy w) (hx : x < 0 ∨ ∃ q, q < K ∧ x = pu_I q) :
    ∃ fl' w', fX4_reachOne w x (pu_I fl.length) = some (pu_I fl'.length, w') ∧ pt_ri K w0 fl' (fun p => wy p + (if x = pu_I p then 1 else 0)) w' ∧ (∃ m, fl' = fl ++ m) ∧ (∀ q, q < K → x = pu_I q → q ∈ fl') ∧ (∀ p ∈ fl', p ∈ fl ∨ x = pu_I p) := by
  obtain ⟨i1, ⟨i2, i3, i4⟩, i5, i6, i7⟩ := hI
  by_cases h0 : x < 0
  · refine ⟨fl, w, ?_, ⟨i1, ⟨i2, i3, i4⟩, i5, i6, fun p hp => ?_⟩, ⟨[], by simp⟩, fun q hq e => absurd h0 (by rw [e]; exact pu_ge (by omega)), fun p hp => Or.inl hp⟩
    · unfold fX4_reachOne fX4_reachOne_J12
      rw [if_pos h0]
    · have hne : ¬ x = pu_I p := fun e => absurd h0 (by rw [e]; exact pu_ge (by omega))
      show w 11 p = pu_I (wy p + (if x = pu_I p then 1 else 0))
      rw [if_neg hne, Nat.add_zero]
      exact i7 p hp
  · obtain ⟨q, q1, rfl⟩ := hx.resolve_left h0
    have hq : ixb (pu_I q) 640 = true := (pu_ix (by omega)).mpr (by omega)
    have hqn : nn (pu_I q) = q := pu_nn (by omega)
    have hlen : fl.length ≤ K := pv_len K fl i2 i3
    have hwy : ∀ p, p < K → upw w 11 q (pu_I (wy q + 1)) 11 p = pu_I (wy p + (if pu_I q = pu_I p then 1 else 0)) := by
      intro p hp
      rw [pv_upw]
      by_cases e : p = q
      · rw [if_pos ⟨rfl, e⟩, e, if_pos rfl]
      · rw [if_neg fun h => e h.2, if_neg fun h => e (pu_inj (by omega) (by omega) h).symm, Nat.add_zero]
        exact i7 p hp
    have hlt : pu_I q < w 0 5 := by rw [i1 0 (by decide) (by decide) (by decide), h5]; exact (pu_lt (by omega) (by omega)).mpr q1
    have hform : fX4_reachOne w (pu_I q) (pu_I fl.length) = (if w 12 q < 0 then (if ixb (pu_I fl.length) 640 = true then some (pu_I (fl.length + 1), upw (upw (upw w 11 q (pu_I (wy q + 1))) 12 q (pu_I fl.length)) 14 fl.length (pu_I q)) else none) else some (pu_I fl.length, upw w 11 q (pu_I (wy q + 1)))) := by
      unfold fX4_reachOne
      rw [if_neg h0, if_pos hlt, if_pos hq, if_pos hq, hqn, i7 q q1, pu_su]
      simp only [lt9]
      rw [if_pos hq, pv_upw_n (by decide), if_pos hq]
      by_cases h9 : w 12 q < 0
      · rw [if_pos h9, if_pos h9, pu_nn (show fl.length < 2147483648 by omega), pu_su]
      · rw [if_neg h9, if_neg h9]
    by_cases hin : q ∈ fl
    · obtain ⟨n, hn⟩ := List.mem_iff_getElem?.mp hin
      have hnl : n < fl.length := (List.getElem?_eq_some_iff.mp hn).1
      have h12 : ¬ w 12 q < 0 := by rw [(i5 n q hn).2]; exact pu_ge (by omega)
      refine ⟨fl, upw w 11 q (pu_I (wy q + 1)), by rw [hform, if_neg h12], ⟨fun r r1 r2 r4 => by rw [pv_upw_n r1, i1 r r1 r2 r4], ⟨i2, i3, i4⟩, fun n p h => ?_, fun p hp h => ?_, hwy⟩, ⟨[], by simp⟩, fun q' h1 h2 => by rw [← pu_inj (by omega) (by omega) h2]; exact hin, fun p hp => Or.inl hp⟩
      · rw [pv_upw_n (by decide), pv_upw_n (by decide)]
        exact i5 n p h
      · rw [pv_upw_n (by decide)]
        exact i6 p hp h
    · have h12 : w 12 q < 0 := i6 q q1 hin
      have hnd : (fl ++ [q]).Nodup := List.nodup_append.mpr ⟨i2, by simp, fun a ha b hb e => by
        rw [List.mem_singleton.mp hb] at e
        exact hin (e ▸ ha)⟩
      have hlt2 : ∀ p ∈ fl ++ [q], p < K := fun p hp => by
        rcases List.mem_append.mp hp with h | h
        · exact i3 p h
        · rw [List.mem_singleton.mp h]; exact q1
      have hlen2 : fl.length + 1 ≤ K := by
        have := pv_len K _ hnd hlt2
        rw [List.length_append] at this
        exact this
      refine ⟨fl ++ [q], upw (upw (upw w 11 q (pu_I (wy q + 1))) 12 q (pu_I fl.length)) 14 fl.length (pu_I q), ?_, ⟨fun r r1 r2 r4 => by rw [pv_upw_n r4, pv_upw_n r2, pv_upw_n r1, i1 r r1 r2 r4], ⟨hnd, hlt2, ?_⟩, fun n p h => ?_, fun p hp h => ?_, fun p hp => ?_⟩, ⟨[q], rfl⟩, fun q' h1 h2 => by rw [← pu_inj (by omega) (by omega) h2]; exact List.mem_append_right _ (List.mem_singleton.mpr rfl), fun p hp => (List.mem_append.mp hp).imp id fun h => by rw [List.mem_singleton.mp h]⟩
      · rw [hform, if_pos h12, if_pos ((pu_ix (by omega)).mpr (by omega)), List.length_append]
        rfl
      · rw [List.getElem?_append_left (List.getElem?_eq_some_iff.mp i4).1]
        exact i4
      · by_cases e : n = fl.length
        · rw [e, List.getElem?_append_right (Nat.le_refl _), Nat.sub_self] at h
          have h : some q = some p := h
          injection h with h
          rw [e, ← h]
          refine ⟨by rw [pv_upw, if_pos ⟨rfl, rfl⟩], by rw [pv_upw_n (by decide), pv_upw, if_pos ⟨rfl, rfl⟩]⟩
        · have hn : n < fl.length := by
            have := (List.getElem?_eq_some_iff.mp h).1
            rw [List.length_append] at this
            have : n < fl.length + 1 := this
            omega
          rw [List.getElem?_append_left hn] at h
          have h9 := i5 n p h
          have hpq : p ≠ q := fun e => hin (by rw [← e]; exact List.mem_iff_getElem?.mpr ⟨n, h⟩)
          refine ⟨by rw [pv_upw, if_neg fun h => e h.2, pv_upw_n (by decide), pv_upw_n (by decide)]; exact h9.1, by rw [pv_upw_n (by decide), pv_upw, if_neg fun h => hpq h.2, pv_upw_n (by decide)]; exact h9.2⟩
      · have hpq : p ≠ q := fun e => h (by rw [e]; exact List.mem_append_right _ (List.mem_singleton.mpr rfl))
        rw [pv_upw_n (by decide), pv_upw, if_neg fun h => hpq h.2, pv_upw_n (by decide)]
        exact i6 p hp fun h9 => h (List.mem_append_left _ h9)
      · rw [pv_upw_n (by decide), pv_upw_n (by decide)]
        exact hwy p hp
theorem pv_reachPieces {w : ST} (hK : K ≤ 640) (hK0 : 0 < K) (h5 : w 0 5 = pu_I K) (hF : pt_fg K (w 9)) (hG : pt_fg K (w 10)) {X : Nat → Prop} (hX0 : X 0) (hXc : ∀ p q, p < K → q < K → X p → (w 9 p = pu_I q ∨ w 10 p = pu_I q) → X q) :
    ∃ fl w', fX4_reachPieces w = some (pu_I fl.length, w') ∧ pt_ri K w fl (pt_wy (w 9) (w 10) fl) w' ∧ (∀ p ∈ fl, ∀ q, q < K → (w 9 p = pu_I q ∨ w 10 p = pu_I q) → q ∈ fl) ∧ (∀ p ∈ fl, X p) := by
  obtain ⟨f1, a1, a2⟩ := pv_fill (n := 640) (f := w 12) (v := -1) (by decide)
  obtain ⟨f2, b1, b2⟩ := pv_fill (n := 640) (f := srw w 12 f1 11) (v := 0) (by decide)
  have key : ∀ (m i k : Nat) (fl : List Nat) (w1 : ST), i + m = K → m < k → i ≤ fl.length → pt_ri K w fl (pt_wy (w 9) (w 10) (fl.take i)) w1 → (∀ n p, n < i → fl[n]? = some p → ∀ q, q < K → (w 9 p = pu_I q ∨ w 10 p = pu_I q) → q ∈ fl) → (∀ p ∈ fl, X p) →
      ∃ fl' w', fX4_reachPieces_L34 k (pu_I fl.length) (pu_I i) w1 = some (pu_I fl'.length, w') ∧ pt_ri K w fl' (pt_wy (w 9) (w 10) fl') w' ∧ (∀ p ∈ fl', ∀ q, q < K → (w 9 p = pu_I q ∨ w 10 p = pu_I q) → q ∈ fl') ∧ (∀ p ∈ fl', X p) := by
    intro m
    induction m with
    | zero =>
      intro i k fl w1 hi hk hif hI hcl hX
      obtain ⟨k', rfl⟩ : ∃ k', k = k' + 1 := ⟨k - 1, by omega⟩
      have hlen := pv_len K fl hI.2.1.1 hI.2.1.2.1
      have hi2 : i = fl.length := by omega
      refine ⟨fl, w1, ?_, ?_, fun p hp q hq he => ?_, hX⟩
      · show (if pu_I fl.length ≤ pu_I i then some (pu_I fl.length, w1) else _) = _
        rw [hi2, if_pos (Int32.le_refl _)]
      · rw [hi2, List.take_length] at hI
        exact hI
      · obtain ⟨n, hn⟩ := List.mem_iff_getElem?.mp hp
        exact hcl n p (by have := (List.getElem?_eq_some_iff.mp hn).1; omega) hn q hq he
    | succ m ih =>
      intro i k fl w1 hi hk hif hI hcl hX
      obtain ⟨k', rfl⟩ : ∃ k', k = k' + 1 := ⟨k - 1, by omega⟩
      have hlen := pv_len K fl hI.2.1.1 hI.2.1.2.1
      by_cases he : i = fl.length
      · refine ⟨fl, w1, ?_, ?_, fun p hp q hq h => ?_, hX⟩
        · show (if pu_I fl.length ≤ pu_I i then some (pu_I fl.length, w1) else _) = _
          rw [he, if_pos (Int32.le_refl _)]
        · rw [he, List.take_length] at hI
          exact hI
        · obtain ⟨n, hn⟩ := List.mem_iff_getElem?.mp hp
          exact hcl n p (by have := (List.getElem?_eq_some_iff.mp hn).1; omega) hn q hq h
      · obtain ⟨p, hp⟩ : ∃ p, fl[i]? = some p := ⟨fl[i], List.getElem?_eq_some_iff.mpr ⟨by omega, rfl⟩⟩
        have hpm : p ∈ fl := List.mem_iff_getElem?.mpr ⟨i, hp⟩
        have hpK := hI.2.1.2.1 p hpm
        have h9 : w1 9 = w 9 := hI.1 9 (by decide) (by decide) (by decide)
        have h14 : w1 14 i = pu_I p := (hI.2.2.1 i p hp).1
        obtain ⟨fl1, w2, c1, c2, ⟨m1, c3⟩, c4, c5⟩ := pv_reachOne (x := w 9 p) hK h5 hI (hF p hpK)
        obtain ⟨fl2, w3, d1, d2, ⟨m2, d3⟩, d4, d5⟩ := pv_reachOne (x := w 10 p) hK h5 c2 (hG p hpK)
        have hp1 : fl1[i]? = some p := by rw [c3, List.getElem?_append_left (by omega)]; exact hp
        have h14' : w2 14 i = pu_I p := (c2.2.2.1 i p hp1).1
        have h10 : w2 10 = w 10 := c2.1 10 (by decide) (by decide) (by decide)
        have htk : fl2.take (i + 1) = fl.take i ++ [p] := by
          rw [d3, c3, List.append_assoc, List.take_append_of_le_length (by omega), List.take_add_one, hp]
          rfl
        have hwy : (fun q => (fun q => pt_wy (w 9) (w 10) (fl.take i) q + (if w 9 p = pu_I q then 1 else 0)) q + (if w 10 p = pu_I q then 1 else 0)) = pt_wy (w 9) (w 10) (fl2.take (i + 1)) := by
          funext q
          rw [htk, pt_wy_app]
          show _ + _ + _ = _ + (_ + 0)
          omega
        rw [hwy] at d2
        have hsub : ∀ q, q ∈ fl → q ∈ fl2 := fun q h => by rw [d3, c3]; exact List.mem_append_left _ (List.mem_append_left _ h)
        have hK2 := pv_len K fl2 d2.2.1.1 d2.2.1.2.1
        have hl2 : fl.length ≤ fl2.length := by rw [d3, c3, List.length_append, List.length_append]; omega
        obtain ⟨fl', w', e1, e2, e3⟩ := ih (i + 1) k' fl2 w3 (by omega) (by omega) (by omega) d2 (fun n z hn hz q hq h => by
          have hnl : n < fl.length := by omega
          rw [d3, c3, List.append_assoc, List.getElem?_append_left hnl] at hz
          by_cases e : n = i
          · rw [e, hp] at hz
            injection hz with hz
            rw [← hz] at h
            rcases h with h | h
            · have := c4 q hq h
              rw [d3]
              exact List.mem_append_left _ this
            · exact d4 q hq h
          · exact hsub q (hcl n z (by omega) hz q hq h)) (fun z hz => by
          rcases d5 z hz with h | h
          · rcases c5 z h with h | h
            · exact hX z h
            · exact hXc p z hpK (d2.2.1.2.1 z hz) (hX p hpm) (Or.inl h)
          · exact hXc p z hpK (d2.2.1.2.1 z hz) (hX p hpm) (Or.inr h))
        refine ⟨fl', w', ?_, e2, e3⟩
        show (if pu_I fl.length ≤ pu_I i then some (pu_I fl.length, w1) else (if ixb (pu_I i) 640 = true then (if ixb (w1 14 (nn (pu_I i))) 640 = true then ((fX4_reachOne w1 (w1 9 (nn (w1 14 (nn (pu_I i))))) (pu_I fl.length)).bind fun (o_8 : Int32 × ST) => (if ixb (pu_I i) 640 = true then (if ixb (((o_8.2) 14) (nn (pu_I i))) 640 = true then ((fX4_reachOne (o_8.2) (((o_8.2) 10) (nn (((o_8.2) 14) (nn (pu_I i))))) (o_8.1)).bind fun (o_12 : Int32 × ST) => ((fX4_reachPieces_L34 k') (o_12.1) (pu_I i + 1) (o_12.2))) else none) else none)) else none) else none)) = _
        rw [if_neg (by rw [pu_le (by omega) (by omega)]; omega), if_pos ((pu_ix (by omega)).mpr (by omega)), pu_nn (by omega), h14, if_pos ((pu_ix (by omega)).mpr (by omega)), pu_nn (by omega), h9, c1, Option.bind_some]
        show (if ixb (pu_I i) 640 = true then (if ixb (w2 14 i) 640 = true then ((fX4_reachOne w2 (w2 10 (nn (w2 14 i))) (pu_I fl1.length)).bind _) else none) else none) = _
        rw [if_pos ((pu_ix (by omega)).mpr (by omega)), h14', if_pos ((pu_ix (by omega)).mpr (by omega)), pu_nn (by omega), h10, d1, Option.bind_some, pu_su]
        exact e1
  obtain ⟨w4, hw4⟩ : ∃ w4, w4 = upw (upw (srw (srw w 12 f1) 11 f2) 14 0 0) 12 0 0 := ⟨_, rfl⟩
  have hI : pt_ri K w [0] (pt_wy (w 9) (w 10) ([0].take 0)) w4 := by
    refine ⟨fun r r1 r2 r4 => by rw [hw4, pv_upw_n r2, pv_upw_n r4, pv_srw_n r1, pv_srw_n r2], ⟨by simp, fun p hp => by rw [List.mem_singleton.mp hp]; exact hK0, rfl⟩, fun n p h => ?_, fun p hp h => ?_, fun p hp => ?_⟩
    · have hn : n < 1 := (List.getElem?_eq_some_iff.mp h).1
      have hn : n = 0 := by omega
      rw [hn] at h
      injection h with h
      rw [hn, ← h, hw4, pv_upw_n (by decide), pv_upw, if_pos ⟨rfl, rfl⟩, pv_upw, if_pos ⟨rfl, rfl⟩]
      exact ⟨rfl, rfl⟩
    · have hp0 : p ≠ 0 := fun e => h (List.mem_singleton.mpr e)
      rw [hw4, pv_upw, if_neg fun h => hp0 h.2, pv_upw_n (by decide), pv_srw_n (by decide), pv_srw_s, a2 p (by omega)]
      decide
    · rw [hw4, pv_upw_n (by decide), pv_upw_n (by decide), pv_srw_s, b2 p (by omega)]
      rfl
  obtain ⟨fl, w', e1, e2, e3⟩ := key K 0 NF [0] w4 (by omega) (by have := pv_NF; omega) (Nat.zero_le _) hI (fun n p h => absurd h (Nat.not_lt_zero _)) (fun p hp => by rw [List.mem_singleton.mp hp]; exact hX0)
  have e1 : fX4_reachPieces_L34 NF 1 0 w4 = some (pu_I fl.length, w') := e1
  refine ⟨fl, w', ?_, e2, e3⟩
  unfold fX4_reachPieces
  rw [a1, Option.bind_some, b1, Option.bind_some]
  simp only [lt9]
  have h0 : nn 0 = 0 := rfl
  rw [h0, ← hw4, e1]
  rfl
end RP
