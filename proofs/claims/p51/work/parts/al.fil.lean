/-! pure side, the maker 20: a step is laid -/
def pt_va (vo : Nat → Int32) (x : Int32) : Int32 := if x < 0 then -1 else vo (nn x)
theorem pv_valueAt {w : ST} {x : Int32} (h : x < 0 ∨ ixb x 3200 = true) : fX4_valueAt w x = some (pt_va (w 4) x) := by
  unfold fX4_valueAt fX4_valueAt_J14 pt_va
  by_cases h0 : x < 0
  · rw [if_neg (Int32.not_le.mpr h0), if_pos h0]
  · rw [if_pos (Int32.not_lt.mp h0), if_pos (h.resolve_left h0), if_neg h0]
abbrev pt_pl (k : Int32) : Prop := k = 0 ∨ k = 20 ∨ k = 21
abbrev pt_en3 (k : Int32) : Prop := k = 24 ∨ k = 33 ∨ k = 34
/-- the step of a flow that a step of the text becomes -/
def pt_stp (P : ST) (lo ro vo : Nat → Int32) (i : Nat) : pu_Stp := (P 9 i, (if pu_gk (P 9 i) = true then vo i else -1), (if pt_pl (P 9 i) then P 10 i else pt_va vo (lo i)), pt_va vo (ro i))
/-- the steps of a flow as they grow -/
def pt_ss (B : Nat) (f1 f2 : ST) (m2 : Nat → Nat) (R0 N : Nat) (ch : Nat → List Nat) : Prop :=
  f2 0 0 = pu_I N ∧ (∃ R, pv_sR m2 R ∧ N ≤ R ∧ (R = R0 ∨ R ≤ N + N / 2 + 1)) ∧ pv_stc B f1 f2 ch ∧ pv_dis B N ch
def pt_ex (N : Nat) (f2 f2' : ST) : Prop := (∀ r i, r ≠ 0 → r ≠ 6 → i < N → f2' r i = f2 r i) ∧ (∀ i, i ≠ 0 → f2' 0 i = f2 0 i) ∧ (∀ r, r ≠ 0 → r ≠ 2 → r ≠ 3 → r ≠ 4 → r ≠ 5 → r ≠ 6 → f2' r = f2 r)
theorem pt_ex_rf (N : Nat) (f2 : ST) : pt_ex N f2 f2 := ⟨fun _ _ _ _ _ => rfl, fun _ _ => rfl, fun _ _ _ _ _ _ _ => rfl⟩
theorem pt_ex_tr {N N1 : Nat} {f g h : ST} (hN : N ≤ N1) (h1 : pt_ex N f g) (h2 : pt_ex N1 g h) : pt_ex N f h :=
  ⟨fun r i r0 r6 hi => by rw [h2.1 r i r0 r6 (by omega), h1.1 r i r0 r6 hi], fun i hi => by rw [h2.2.1 i hi, h1.2.1 i hi], fun r r0 r2 r3 r4 r5 r6 => by rw [h2.2.2 r r0 r2 r3 r4 r5 r6, h1.2.2 r r0 r2 r3 r4 r5 r6]⟩
theorem pt_ex_S {N : Nat} {f g : ST} (h : pt_ex N f g) {a : Nat} (ha : a < N) : pv_S g a = pv_S f a := by
  unfold pv_S
  rw [h.1 2 a (by decide) (by decide) ha, h.1 3 a (by decide) (by decide) ha, h.1 4 a (by decide) (by decide) ha, h.1 5 a (by decide) (by decide) ha]
def pt_mx (m m' : Nat → Nat) : Prop := ∀ r, r ≠ 2 → r ≠ 3 → r ≠ 4 → r ≠ 5 → r ≠ 6 → m' r = m r
section FS
variable {P w f1 f2 : ST} {m2 : Nat → Nat} {B R0 N b i : Nat} {ch : Nat → List Nat}
theorem pv_fillStep (hB : B ≤ 60) (hb : b < B) (hi : i < 3200) (hlo : w 2 i < 0 ∨ ixb (w 2 i) 3200 = true) (hro : w 3 i < 0 ∨ ixb (w 3 i) 3200 = true) (hR0 : R0 ≤ 50000) (hN : N < 3200) (hss : pt_ss B f1 f2 m2 R0 N ch) :
    ∃ f' f2' m2' N' ch' x, fX4_fillStep w P f1 (pu_I b) (pu_I i) m2 f2 = some (f', f2', m2') ∧ pt_ss B f' f2' m2' R0 N' ch' ∧ pt_ex N f2 f2' ∧ (N ≤ N' ∧ N' ≤ N + 1) ∧ (∀ c, c ≠ b → ch' c = ch c) ∧ ch' b = ch b ++ x ∧
      x.map (pv_S f2') = (if P 9 i ≤ 21 then [pt_stp P (w 2) (w 3) (w 4) i] else []) ∧ (∀ r, r ≠ 4 → r ≠ 5 → r ≠ 9 → f' r = f1 r) ∧ (∀ c, c ≠ b → f' 9 c = f1 9 c) ∧ f' 9 b = (if pt_en3 (P 9 i) then pt_va (w 4) (w 2 i) else f1 9 b) ∧ pt_mx m2 m2' := by
  have hix : ixb (pu_I i) 3200 = true := (pu_ix (by omega)).mpr hi
  have hin : nn (pu_I i) = i := pu_nn (by omega)
  have hbx : ixb (pu_I b) 60 = true := (pu_ix (by omega)).mpr (by omega)
  have hbn : nn (pu_I b) = b := pu_nn (by omega)
  obtain ⟨q1, ⟨R, q2, q3, q4⟩, q5, q6⟩ := id hss
  -- a step more
  have h131 : ∀ y1, fX4_fillStep_J131 w P f1 (pu_I b) (pu_I i) m2 f2 y1 (if pu_gk (P 9 i) = true then w 4 i else -1) = (fX1_addStep f1 (pu_I b) (P 9 i) (if pu_gk (P 9 i) = true then w 4 i else -1) y1 (pt_va (w 4) (w 3 i)) m2 f2).bind fun o => some (o.2.1, o.2.2.1, o.2.2.2) := by
    intro y1
    unfold fX4_fillStep_J131 fX4_fillStep_G145_28 fX4_fillStep_J146
    rw [hin, if_pos hix, pv_valueAt hro, Option.bind_some]
  have h85 : ∀ y0 : Int32, fX4_fillStep_J85 w P f1 (pu_I b) (pu_I i) m2 f2 (pt_va (w 4) (w 2 i)) y0 = (fX1_addStep f1 (pu_I b) (P 9 i) (if pu_gk (P 9 i) = true then w 4 i else -1) (if y0 = 0 then pt_va (w 4) (w 2 i) else P 10 i) (pt_va (w 4) (w 3 i)) m2 f2).bind fun o => some (o.2.1, o.2.2.1, o.2.2.2) := by
    intro y0
    have h106 : ∀ z, fX4_fillStep_J106 w P f1 (pu_I b) (pu_I i) m2 f2 (pt_va (w 4) (w 2 i)) y0 z = fX4_fillStep_J131 w P f1 (pu_I b) (pu_I i) m2 f2 (if y0 = 0 then pt_va (w 4) (w 2 i) else P 10 i) z := by
      intro z
      unfold fX4_fillStep_J106
      rw [hin]
      by_cases h0 : y0 = 0
      · rw [if_pos h0, if_pos h0]
      · rw [if_neg h0, if_neg h0, if_pos hix]
    unfold fX4_fillStep_J85
    rw [hin, pv_gvv, Option.bind_some, ← h131]
    cases hg : pu_gk (P 9 i) with
    | false =>
      rw [if_pos (show pv_b false = 0 by decide), h106]
      rfl
    | true =>
      rw [if_neg (show ¬ pv_b true = 0 by decide), if_pos hix, h106]
      rfl
  have hform : fX4_fillStep w P f1 (pu_I b) (pu_I i) m2 f2 = (if pt_en3 (P 9 i) then some (upw f1 9 b (pt_va (w 4) (w 2 i)), f2, m2) else if P 9 i ≤ 21 then (fX1_addStep f1 (pu_I b) (P 9 i) (if pu_gk (P 9 i) = true then w 4 i else -1) (if pt_pl (P 9 i) then P 10 i else pt_va (w 4) (w 2 i)) (pt_va (w 4) (w 3 i)) m2 f2).bind fun o => some (o.2.1, o.2.2.1, o.2.2.2) else some (f1, f2, m2)) := by
    have h43 : fX4_fillStep_J43 f1 (pu_I b) m2 f2 (pt_va (w 4) (w 2 i)) = some (upw f1 9 b (pt_va (w 4) (w 2 i)), f2, m2) := by
      unfold fX4_fillStep_J43 fX4_fillStep_J146
      rw [if_pos hbx, hbn]
      rfl
    have h80 : fX4_fillStep_J80 w P f1 (pu_I b) (pu_I i) m2 f2 (pt_va (w 4) (w 2 i)) = fX4_fillStep_J85 w P f1 (pu_I b) (pu_I i) m2 f2 (pt_va (w 4) (w 2 i)) 1 := rfl
    unfold fX4_fillStep
    rw [if_pos hix, if_pos hix, hin, pv_valueAt hlo, Option.bind_some, h43, h80, h85, h85]
    by_cases e1 : P 9 i = 24
    · rw [if_pos e1, if_pos (Or.inl e1)]
    rw [if_neg e1]
    by_cases e2 : P 9 i = 33
    · rw [if_pos e2, if_pos (Or.inr (Or.inl e2))]
    rw [if_neg e2]
    by_cases e3 : P 9 i = 34
    · rw [if_pos e3, if_pos (Or.inr (Or.inr e3))]
    rw [if_neg e3, if_neg (show ¬ pt_en3 (P 9 i) from fun h => by
      rcases h with h | h | h
      · exact e1 h
      · exact e2 h
      · exact e3 h)]
    by_cases e4 : 21 < P 9 i
    · rw [if_pos e4, if_neg (Int32.not_le.mpr e4)]
      rfl
    rw [if_neg e4, if_pos (Int32.not_lt.mp e4), if_neg (show ¬ (1 : Int32) = 0 by decide), if_pos (rfl : (0 : Int32) = 0)]
    by_cases e5 : P 9 i = 0
    · rw [if_pos e5, if_pos (show pt_pl (P 9 i) from Or.inl e5)]
    rw [if_neg e5]
    by_cases e6 : P 9 i = 20
    · rw [if_pos e6, if_pos (show pt_pl (P 9 i) from Or.inr (Or.inl e6))]
    rw [if_neg e6]
    by_cases e7 : P 9 i = 21
    · rw [if_pos e7, if_pos (show pt_pl (P 9 i) from Or.inr (Or.inr e7))]
    rw [if_neg e7, if_neg (show ¬ pt_pl (P 9 i) from fun h => by
      rcases h with h | h | h
      · exact e5 h
      · exact e6 h
      · exact e7 h)]
  rw [hform]
  by_cases he : pt_en3 (P 9 i)
  · have h21 : ¬ P 9 i ≤ 21 := by rcases he with h | h | h <;> rw [h] <;> decide
    refine ⟨_, f2, m2, N, ch, [], if_pos he, ⟨q1, ⟨R, q2, q3, q4⟩, ⟨fun c hc => ?_, fun c l a hc h => ?_⟩, q6⟩, pt_ex_rf N f2, ⟨Nat.le_refl _, by omega⟩, fun c _ => rfl, (List.append_nil _).symm, by rw [if_neg h21]; rfl, fun r r4 r5 r9 => pv_upw_n r9, fun c hc => by rw [pv_upw, if_neg fun h => hc h.2], by rw [pv_upw, if_pos ⟨rfl, rfl⟩, if_pos he], fun r _ _ _ _ _ => rfl⟩
    · rw [pv_upw_n (by decide)]; exact q5.1 c hc
    · rw [pv_upw_n (by decide)]; exact q5.2 c l a hc h
  · by_cases h21 : P 9 i ≤ 21
    · obtain ⟨f', f2', m', R', a1, a2, a3, a4, a5, a6, a7, a8, a9, b1, b2, b3, b4, b5, b6⟩ := pv_addStep hB q1 q2 q3 (by omega) q5 q6 hb (P 9 i) (if pu_gk (P 9 i) = true then w 4 i else -1) (if pt_pl (P 9 i) then P 10 i else pt_va (w 4) (w 2 i)) (pt_va (w 4) (w 3 i))
      refine ⟨f', f2', m', N + 1, pv_up ch b (ch b ++ [N]), [N], ?_, ⟨a2, ⟨R', a8, a9, ?_⟩, b3, b4⟩, ⟨a5, a3, a6⟩, ⟨by omega, Nat.le_refl _⟩, fun c hc => pv_up_n hc, pv_up_s _ _ _, ?_, fun r r4 r5 _ => b5 r r4 r5, fun c _ => by rw [b5 9 (by decide) (by decide)], by rw [b5 9 (by decide) (by decide), if_neg he], b2⟩
      · rw [if_neg he, if_pos h21, a1]
        rfl
      · rcases b1 with h | h
        · rcases q4 with h2 | h2
          · exact Or.inl (by omega)
          · exact Or.inr (by omega)
        · exact Or.inr (by omega)
      · rw [if_pos h21]
        show [pv_S f2' N] = _
        rw [a4]
        rfl
    · refine ⟨f1, f2, m2, N, ch, [], by rw [if_neg he, if_neg h21], hss, pt_ex_rf N f2, ⟨Nat.le_refl _, by omega⟩, fun c _ => rfl, (List.append_nil _).symm, by rw [if_neg h21]; rfl, fun r _ _ _ => rfl, fun c _ => rfl, by rw [if_neg he], fun r _ _ _ _ _ => rfl⟩
end FS
