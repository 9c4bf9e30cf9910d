/-! pure side, stores 45: fold: what is learnt of blocks, until nothing is -/
/-- all that a block tells where nothing is learnt -/
def pv_cfb (B : Nat) (w w2 g : ST) (x : Int64) (ch ph : Nat → List Nat) (wb : Nat → Nat) (b : Nat) : Prop :=
  (∀ a ∈ ph b, pv_cfp w g x wb b a) ∧ (∀ a ∈ ch b, ¬ w2 3 a < 0 → pv_cfs g w2 a) ∧ (∀ c, c < B → pv_eg w b c → pv_iw g x w b (pu_I c) = true → pv_bt x c = true)
def pv_xc (B : Nat) (x : Int64) : Nat := ((List.range B).filter (fun c => pv_bt x c)).length
section FM
variable {n n2 : Nat → Nat} {w w2 : ST} {B N M : Nat} {ch ph : Nat → List Nat} {wb : Nat → Nat}
theorem pv_lb10 {l : SL} (hok : pv_ok n w n2 w2 B N M ch ph) (hw : pv_wys B w wb) (htk : pv_tk B w wb ph) (hev : ∀ p, p < B → w 8 p = 23 → ixb (w 9 p) 250 = true) {b : Nat} (hb : b < B) {g : ST} (hfv : pv_fv g) :
    ∃ r g', fX5_learnBlock_L10 l n w (pu_I b) NF 0 (w 6 b) g = some (r, g') ∧ pv_lr 0 g r g' ∧ (r = 0 → ∀ a ∈ ph b, pv_cfp w g (l 0 7) wb b a) := by
  obtain ⟨⟨hw0, hB0, hB⟩, _, ⟨hM19, hM20, hM21, hM⟩, _, _, hph, hdp, hix, _⟩ := id hok
  obtain ⟨t, e1, h1, h2⟩ := pv_chl (G := fun k x (t : Int32 × ST) => fX5_learnBlock_L10 l n w (pu_I b) k t.1 x t.2) (nx := w 20)
    (Inv := fun done rem (t : Int32 × ST) => done ++ rem = ph b ∧ pv_lr 0 g t.1 t.2 ∧ (t.1 = 0 → ∀ a ∈ done, pv_cfp w g (l 0 7) wb b a))
    (Q := fun t : Int32 × ST => pv_lr 0 g t.1 t.2 ∧ (t.1 = 0 → ∀ a ∈ ph b, pv_cfp w g (l 0 7) wb b a))
    (fun k a done rem t hI => by
      obtain ⟨i0, i1, i2⟩ := hI
      have ha : a ∈ ph b := by rw [← i0]; exact List.mem_append_right _ List.mem_cons_self
      have haM := hdp.1 b hb a ha
      obtain ⟨o, g2, f1, f2, f3⟩ := pv_learnPhi (l := l) (i1.2.2.1 hfv) hok hw htk hev hb ha
      refine ⟨(if o = 0 then t.1 else 1, g2), ?_, by rw [← i0]; simp, pv_lr_tr i1 (pv_lr_or i1.1 f2), fun h0 a' ha' => ?_⟩
      · show (if pu_I a < 0 then some (t.1, t.2) else ((fX5_learnPhi t.2 l n w (pu_I b) (pu_I a)).bind fun (o_3 : Int32 × ST) => (if (o_3.1) = 0 then (if t.1 = 0 then (fX5_learnBlock_J35 (fX5_learnBlock_L10 l n w (pu_I b) k) n w (pu_I a) o_3 0) else (fX5_learnBlock_J30 (fX5_learnBlock_L10 l n w (pu_I b) k) n w (pu_I a) o_3)) else (fX5_learnBlock_J30 (fX5_learnBlock_L10 l n w (pu_I b) k) n w (pu_I a) o_3)))) = fX5_learnBlock_L10 l n w (pu_I b) k (if o = 0 then t.1 else 1) (w 20 a) g2
        unfold fX5_learnBlock_J30 fX5_learnBlock_J35
        rw [if_neg (pu_ge (by omega)), f1, Option.bind_some, if_pos ((pu_ix (by omega)).mpr (by omega)), if_pos ((pu_ix (by omega)).mpr (by omega)), pu_nn (by omega)]
        show (if o = 0 then (if t.1 = 0 then _ else _) else _) = _
        by_cases ho : o = 0
        · rw [if_pos ho, if_pos ho]
          by_cases ht : t.1 = 0
          · rw [if_pos ht, ht]
          · rw [if_neg ht, i1.1.resolve_left ht]
        · rw [if_neg ho, if_neg ho]
      · have h0 : (if o = 0 then t.1 else 1) = (0 : Int32) := h0
        have ho : o = 0 := by
          by_cases ho : o = 0
          · exact ho
          · rw [if_neg ho] at h0; exact absurd h0 (by decide)
        rw [if_pos ho] at h0
        have hg := (i1.2.2.2.2.1 h0).2
        rcases List.mem_append.mp ha' with h | h
        · exact i2 h0 a' h
        · rw [List.mem_singleton.mp h]
          have h9 := f3 ho
          rw [hg] at h9
          exact h9)
    (fun k x done t hx hI => ⟨t, by
      show (if x < 0 then some (t.1, t.2) else _) = _
      rw [if_pos hx], by
      obtain ⟨i0, i1, i2⟩ := hI
      rw [List.append_nil] at i0
      rw [← i0]
      exact ⟨i1, i2⟩⟩)
    (ph b) [] (w 6 b) NF (0, g) (hph.1 b hb) (by have := pv_len M (ph b) (hdp.2.1 b hb) (hdp.1 b hb); have := pv_NF; omega) ⟨rfl, pv_lr_rf (Or.inl rfl), fun _ a ha => (by cases ha)⟩
  exact ⟨t.1, t.2, e1, h1, h2⟩
theorem pv_lb56 (hok : pv_ok n w n2 w2 B N M ch ph) (hrg : pv_rg w2 B ch) {b : Nat} (hb : b < B) {g : ST} (hfv : pv_fv g) {r0 : Int32} (hr0 : r0 = 0 ∨ r0 = 1) :
    ∃ r g', fX5_learnBlock_L56 n2 w2 NF r0 (w 4 b) g = some (r, g') ∧ pv_lr r0 g r g' ∧ (r = 0 → ∀ a ∈ ch b, ¬ w2 3 a < 0 → pv_cfs g w2 a) := by
  obtain ⟨⟨hw0, hB0, hB⟩, ⟨hN2, hN3, hN4, hN5, hN6, hN⟩, _, hst, hd, _, _, _, hix2⟩ := id hok
  obtain ⟨t, e1, h1, h2⟩ := pv_chl (G := fun k x (t : Int32 × ST) => fX5_learnBlock_L56 n2 w2 k t.1 x t.2) (nx := w2 6)
    (Inv := fun done rem (t : Int32 × ST) => done ++ rem = ch b ∧ pv_lr r0 g t.1 t.2 ∧ (t.1 = 0 → ∀ a ∈ done, ¬ w2 3 a < 0 → pv_cfs g w2 a))
    (Q := fun t : Int32 × ST => pv_lr r0 g t.1 t.2 ∧ (t.1 = 0 → ∀ a ∈ ch b, ¬ w2 3 a < 0 → pv_cfs g w2 a))
    (fun k a done rem t hI => by
      obtain ⟨i0, i1, i2⟩ := hI
      have ha : a ∈ ch b := by rw [← i0]; exact List.mem_append_right _ List.mem_cons_self
      have haN := hd.1 b hb a ha
      have ha31 : a < 2147483648 := by omega
      have hform : fX5_learnBlock_L56 n2 w2 (k + 1) t.1 (pu_I a) t.2 = (if w2 3 a < 0 then fX5_learnBlock_L56 n2 w2 k t.1 (w2 6 a) t.2 else ((fX5_learnStep t.2 n2 w2 (pu_I a)).bind fun (o_13 : Int32 × ST) => (if (o_13.1) = 0 then (if t.1 = 0 then fX5_learnBlock_L56 n2 w2 k 0 (w2 6 a) o_13.2 else fX5_learnBlock_L56 n2 w2 k 1 (w2 6 a) o_13.2) else fX5_learnBlock_L56 n2 w2 k 1 (w2 6 a) o_13.2))) := by
        show (if pu_I a < 0 then some (t.1, t.2) else (if ixb (pu_I a) (n2 3) = true then (if (w2 3 (nn (pu_I a))) < 0 then (fX5_learnBlock_J97 (fX5_learnBlock_L56 n2 w2 k) n2 w2 (pu_I a) t.1 t.2) else ((fX5_learnStep t.2 n2 w2 (pu_I a)).bind fun (o_13 : Int32 × ST) => (if (o_13.1) = 0 then (if t.1 = 0 then (fX5_learnBlock_J96 (fX5_learnBlock_L56 n2 w2 k) n2 w2 (pu_I a) o_13 0) else (fX5_learnBlock_J91 (fX5_learnBlock_L56 n2 w2 k) n2 w2 (pu_I a) o_13)) else (fX5_learnBlock_J91 (fX5_learnBlock_L56 n2 w2 k) n2 w2 (pu_I a) o_13)))) else none)) = _
        unfold fX5_learnBlock_J91 fX5_learnBlock_J96 fX5_learnBlock_J97
        have i6 : ixb (pu_I a) (n2 6) = true := (pu_ix ha31).mpr (by omega)
        rw [if_neg (pu_ge ha31), if_pos ((pu_ix ha31).mpr (by omega)), pu_nn ha31]
        simp only [if_pos i6]
      rw [hform]
      by_cases h0 : w2 3 a < 0
      · rw [if_pos h0]
        refine ⟨t, rfl, by rw [← i0]; simp, i1, fun ht a' ha' h9 => ?_⟩
        rcases List.mem_append.mp ha' with h | h
        · exact i2 ht a' h h9
        · rw [List.mem_singleton.mp h] at h9
          exact absurd h0 h9
      · rw [if_neg h0]
        obtain ⟨o, g2, f1, f2, f3⟩ := pv_learnStep (n2 := n2) (i1.2.2.1 hfv) haN hN2 hN3 hN4 hN5 hN ((hix2 b hb a ha).resolve_left h0) (hrg b hb a ha)
        rw [f1, Option.bind_some]
        refine ⟨(if o = 0 then t.1 else 1, g2), ?_, by rw [← i0]; simp, pv_lr_tr i1 (pv_lr_or i1.1 f2), fun hz a' ha' h9 => ?_⟩
        · show (if o = 0 then (if t.1 = 0 then _ else _) else _) = fX5_learnBlock_L56 n2 w2 k (if o = 0 then t.1 else 1) (w2 6 a) g2
          by_cases ho : o = 0
          · rw [if_pos ho, if_pos ho]
            by_cases ht : t.1 = 0
            · rw [if_pos ht, ht]
            · rw [if_neg ht, i1.1.resolve_left ht]
          · rw [if_neg ho, if_neg ho]
        · have hz : (if o = 0 then t.1 else 1) = (0 : Int32) := hz
          have ho : o = 0 := by
            by_cases ho : o = 0
            · exact ho
            · rw [if_neg ho] at hz; exact absurd hz (by decide)
          rw [if_pos ho] at hz
          have hg := (i1.2.2.2.2.1 hz).2
          rcases List.mem_append.mp ha' with h | h
          · exact i2 hz a' h h9
          · rw [List.mem_singleton.mp h]
            have h8 := f3 ho
            rw [hg] at h8
            exact h8)
    (fun k x done t hx hI => ⟨t, by
      show (if x < 0 then some (t.1, t.2) else _) = _
      rw [if_pos hx], by
      obtain ⟨i0, i1, i2⟩ := hI
      rw [List.append_nil] at i0
      rw [← i0]
      exact ⟨i1, i2⟩⟩)
    (ch b) [] (w 4 b) NF (r0, g) (hst.1 b hb) (by have := pv_len N (ch b) (hd.2.1 b hb) (hd.1 b hb); have := pv_NF; omega) ⟨rfl, pv_lr_rf hr0, fun _ a ha => (by cases ha)⟩
  exact ⟨t.1, t.2, e1, h1, h2⟩
/-- what learning of a block does: nothing, or something goes up -/
def pv_lb9 (B : Nat) (r : Int32) (g : ST) (x : Int64) (r' : Int32) (g' : ST) (x' : Int64) : Prop :=
  (r' = 0 ∨ r' = 1) ∧ (∀ q, q ≠ 4 → q ≠ 5 → g' q = g q) ∧ (pv_fv g → pv_fv g') ∧ pv_lc g ≤ pv_lc g' ∧ (∀ c, pv_bt x c = true → pv_bt x' c = true) ∧ (∀ c, pv_bt x' c = true → pv_bt x c = true ∨ c < B) ∧ (r' = 0 → r = 0 ∧ g' = g ∧ x' = x) ∧ (r' ≠ 0 → r = 0 → pv_lc g + pv_xc B x < pv_lc g' + pv_xc B x')
theorem pv_xc_mo {x x' : Int64} (h : ∀ c, pv_bt x c = true → pv_bt x' c = true) : pv_xc B x ≤ pv_xc B x' := pv_flt _ fun c _ hc => h c hc
theorem pv_xc_lt {x x' : Int64} (h : ∀ c, pv_bt x c = true → pv_bt x' c = true) (h2 : ∀ c, pv_bt x' c = true → pv_bt x c = true ∨ c < B) (hne : x' ≠ x) : pv_xc B x < pv_xc B x' := by
  obtain ⟨d, hd⟩ : ∃ d, ¬ (d < 64 → pv_bt x' d = pv_bt x d) := Classical.not_forall.mp fun hall => hne (pv_bt_ext hall)
  obtain ⟨_, hd⟩ := Classical.not_imp.mp hd
  have hb : pv_bt x' d = true ∧ pv_bt x d = false := by
    cases hb1 : pv_bt x d with
    | true => rw [hb1, h d hb1] at hd; exact absurd rfl hd
    | false =>
      cases hb2 : pv_bt x' d with
      | true => exact ⟨rfl, rfl⟩
      | false => rw [hb1, hb2] at hd; exact absurd rfl hd
  have hdB : d < B := (h2 d hb.1).resolve_left (by rw [hb.2]; decide)
  exact pv_flt_lt _ (fun c _ hc => h c hc) ⟨d, List.mem_range.mpr hdB, hb.1, hb.2⟩
theorem pv_learnBlock {g : ST} {l : SL} (hfv : pv_fv g) (hok : pv_ok n w n2 w2 B N M ch ph) (hrg : pv_rg w2 B ch) (hw : pv_wys B w wb) (htk : pv_tk B w wb ph) (hev : ∀ p, p < B → w 8 p = 23 → ixb (w 9 p) 250 = true) (hsv : pv_sv B w) {b : Nat} (hb : b < B) :
    ∃ r g' l', fX5_learnBlock g l n w (pu_I b) n2 w2 = some (r, g', l') ∧ pv_lb9 B 0 g (l 0 7) r g' (l' 0 7) ∧ (∀ q i, ¬ (q = 0 ∧ i = 7) → l' q i = l q i) ∧ (r = 0 → pv_cfb B w w2 g (l 0 7) ch ph wb b) := by
  obtain ⟨⟨hw0, hB0, hB⟩, _⟩ := id hok
  have h60 : ixb (pu_I b) 60 = true := (pu_ix (by omega)).mpr (by omega)
  have hnb : nn (pu_I b) = b := pu_nn (by omega)
  obtain ⟨r1, g1, a1, a2, a3⟩ := pv_lb10 (l := l) hok hw htk hev hb hfv
  have hfv1 := a2.2.2.1 hfv
  obtain ⟨r2, g2, b1, b2, b3⟩ := pv_lb56 (n2 := n2) hok hrg hb hfv1 a2.1
  have h12 := pv_lr_tr a2 b2
  -- one way: the set grows by a block that is there, or stays
  have hway : ∀ (l1 : SL) (q : Int32), (q < 0 ∨ ∃ c, c < B ∧ q = pu_I c) → ¬ q < 0 → ∃ o l2, fX5_isWay g2 l1 w (pu_I b) q = some o ∧ l2 = (if o = 0 then l1 else upl l1 0 7 ((l1 0 7) ||| (((1 : Int64) <<< ((q : Int32).toInt64 &&& 63))))) ∧ (∀ q i, ¬ (q = 0 ∧ i = 7) → l2 q i = l1 q i) ∧ (∀ c, pv_bt (l1 0 7) c = true → pv_bt (l2 0 7) c = true) ∧ (∀ c, pv_bt (l2 0 7) c = true → pv_bt (l1 0 7) c = true ∨ c < B) ∧ (pv_iw g2 (l1 0 7) w b q = true → ∀ c, c < B → q = pu_I c → pv_bt (l2 0 7) c = true) := by
    intro l1 q hq h0
    obtain ⟨c, hc, rfl⟩ := hq.resolve_left h0
    refine ⟨_, _, pv_isWay hB hb (hev b hb) _, rfl, ?_⟩
    cases hi : pv_iw g2 (l1 0 7) w b (pu_I c) with
    | false =>
      rw [if_pos (show pv_b false = 0 by decide)]
      exact ⟨fun _ _ _ => rfl, fun _ h => h, fun _ h => Or.inl h, fun h => by cases h⟩
    | true =>
      rw [if_neg (show ¬ pv_b true = 0 by decide)]
      have hx : ∀ d, pv_bt (upl l1 0 7 ((l1 0 7) ||| (((1 : Int64) <<< ((pu_I c : Int32).toInt64 &&& 63)))) 0 7) d = true ↔ (pv_bt (l1 0 7) d = true ∨ d = c) := fun d => by
        rw [pv_upl, if_pos ⟨rfl, rfl⟩, pv_bt_or, pv_bt_1 (by omega), Bool.or_eq_true, decide_eq_true_iff]
      refine ⟨fun q i h => by rw [pv_upl, if_neg h], fun d h => (hx d).mpr (Or.inl h), fun d h => ((hx d).mp h).imp id fun e => by omega, fun _ d hd e => (hx d).mpr (Or.inr (pu_inj (by omega) (by omega) e).symm)⟩
  -- both ways
  have hsvb := hsv b hb
  obtain ⟨l1, c1, c2, c3, c4, c5⟩ : ∃ l1, (if w 10 b < 0 then some l else ((fX5_isWay g2 l w (pu_I b) (w 10 b)).bind fun (o : Int32) => some (if o = 0 then l else upl l 0 7 ((l 0 7) ||| (((1 : Int64) <<< (((w 10 b) : Int32).toInt64 &&& 63))))))) = some l1 ∧ (∀ q i, ¬ (q = 0 ∧ i = 7) → l1 q i = l q i) ∧ (∀ c, pv_bt (l 0 7) c = true → pv_bt (l1 0 7) c = true) ∧ (∀ c, pv_bt (l1 0 7) c = true → pv_bt (l 0 7) c = true ∨ c < B) ∧ (pv_iw g2 (l 0 7) w b (w 10 b) = true → ∀ c, c < B → w 10 b = pu_I c → pv_bt (l1 0 7) c = true) := by
    by_cases h0 : w 10 b < 0
    · refine ⟨l, by rw [if_pos h0], fun _ _ _ => rfl, fun _ h => h, fun _ h => Or.inl h, fun _ c hc e => absurd h0 (by rw [e]; exact pu_ge (by omega))⟩
    · obtain ⟨o, l2, q1, q2, q3, q4, q5, q6⟩ := hway l (w 10 b) hsvb.1 h0
      exact ⟨l2, by rw [if_neg h0, q1, Option.bind_some, q2], q3, q4, q5, q6⟩
  obtain ⟨l2, d1, d2, d3, d4, d5⟩ : ∃ l2, (if w 11 b < 0 then some l1 else ((fX5_isWay g2 l1 w (pu_I b) (w 11 b)).bind fun (o : Int32) => some (if o = 0 then l1 else upl l1 0 7 ((l1 0 7) ||| (((1 : Int64) <<< (((w 11 b) : Int32).toInt64 &&& 63))))))) = some l2 ∧ (∀ q i, ¬ (q = 0 ∧ i = 7) → l2 q i = l1 q i) ∧ (∀ c, pv_bt (l1 0 7) c = true → pv_bt (l2 0 7) c = true) ∧ (∀ c, pv_bt (l2 0 7) c = true → pv_bt (l1 0 7) c = true ∨ c < B) ∧ (pv_iw g2 (l1 0 7) w b (w 11 b) = true → ∀ c, c < B → w 11 b = pu_I c → pv_bt (l2 0 7) c = true) := by
    by_cases h0 : w 11 b < 0
    · refine ⟨l1, by rw [if_pos h0], fun _ _ _ => rfl, fun _ h => h, fun _ h => Or.inl h, fun _ c hc e => absurd h0 (by rw [e]; exact pu_ge (by omega))⟩
    · obtain ⟨o, l2, q1, q2, q3, q4, q5, q6⟩ := hway l1 (w 11 b) hsvb.2 h0
      exact ⟨l2, by rw [if_neg h0, q1, Option.bind_some, q2], q3, q4, q5, q6⟩
  have h200 : fX5_learnBlock_J200 l (r2, g2) l2 = some ((if r2 = 0 then (if l2 0 7 = l 0 7 then 0 else 1) else 1), g2, l2) := by
    unfold fX5_learnBlock_J200 fX5_learnBlock_J214 fX5_learnBlock_J219
    show (if r2 = 0 then (if (lg_cmp (l2 0 7) (l 0 7)) = 0 then (if (0 : Int32) = 0 ∨ (0 : Int32) = 1 then some ((0 : Int32), g2, l2) else none) else (if (1 : Int32) = 0 ∨ (1 : Int32) = 1 then some ((1 : Int32), g2, l2) else none)) else (if (1 : Int32) = 0 ∨ (1 : Int32) = 1 then some ((1 : Int32), g2, l2) else none)) = _
    rw [if_pos (Or.inl rfl), if_pos (Or.inr rfl)]
    by_cases hr : r2 = 0
    · rw [if_pos hr, if_pos hr]
      by_cases hx : l2 0 7 = l 0 7
      · rw [if_pos ((pv_cmp0 _ _).mpr hx), if_pos hx]
      · rw [if_neg fun c => hx ((pv_cmp0 _ _).mp c), if_neg hx]
    · rw [if_neg hr, if_neg hr]
  have h159 : fX5_learnBlock_J159 l w (pu_I b) (r2, g2) l1 = some ((if r2 = 0 then (if l2 0 7 = l 0 7 then 0 else 1) else 1), g2, l2) := by
    unfold fX5_learnBlock_J159
    rw [if_pos h60, hnb]
    by_cases h0 : w 11 b < 0
    · rw [if_pos h0] at d1 ⊢
      have d1 := Option.some.inj d1
      rw [d1]
      exact h200
    · rw [if_neg h0] at d1 ⊢
      rw [if_pos h60]
      replace d1 := bnd9 d1
      obtain ⟨o, o1, o2⟩ := d1
      have o2 := Option.some.inj o2
      show (fX5_isWay g2 l1 w (pu_I b) (w 11 b)).bind _ = _
      rw [o1, Option.bind_some, if_pos h60]
      by_cases ho : o = 0
      · rw [if_pos ho] at o2 ⊢
        rw [o2]
        exact h200
      · rw [if_neg ho] at o2 ⊢
        simp only [lt9]
        rw [o2]
        exact h200
  have hfin : fX5_learnBlock g l n w (pu_I b) n2 w2 = some ((if r2 = 0 then (if l2 0 7 = l 0 7 then 0 else 1) else 1), g2, l2) := by
    unfold fX5_learnBlock
    rw [if_pos h60, hnb, a1, Option.bind_some, if_pos h60, b1, Option.bind_some, if_pos h60]
    by_cases h0 : w 10 b < 0
    · rw [if_pos h0] at c1 ⊢
      have c1 := Option.some.inj c1
      rw [← c1] at h159
      exact h159
    · rw [if_neg h0] at c1 ⊢
      rw [if_pos h60]
      replace c1 := bnd9 c1
      obtain ⟨o, o1, o2⟩ := c1
      have o2 := Option.some.inj o2
      show (fX5_isWay g2 l w (pu_I b) (w 10 b)).bind _ = _
      rw [o1, Option.bind_some, if_pos h60]
      by_cases ho : o = 0
      · rw [if_pos ho] at o2 ⊢
        rw [← o2] at h159
        exact h159
      · rw [if_neg ho] at o2 ⊢
        simp only [lt9]
        rw [o2]
        exact h159
  have hmo : ∀ c, pv_bt (l 0 7) c = true → pv_bt (l2 0 7) c = true := fun c h => d3 c (c3 c h)
  have hnew : ∀ c, pv_bt (l2 0 7) c = true → pv_bt (l 0 7) c = true ∨ c < B := fun c h => (d4 c h).elim (c4 c) Or.inr
  have hrz : (if r2 = 0 then (if l2 0 7 = l 0 7 then 0 else 1) else 1) = (0 : Int32) → r2 = 0 ∧ l2 0 7 = l 0 7 := by
    intro h
    by_cases hr : r2 = 0
    · rw [if_pos hr] at h
      by_cases hx : l2 0 7 = l 0 7
      · exact ⟨hr, hx⟩
      · rw [if_neg hx] at h; exact absurd h (by decide)
    · rw [if_neg hr] at h; exact absurd h (by decide)
  refine ⟨_, g2, l2, hfin, ⟨?_, h12.2.1, h12.2.2.1, pv_lc_mo h12.2.2.2.1, hmo, hnew, fun h => ?_, fun h _ => ?_⟩, fun q i h => by rw [d2 q i h, c2 q i h], fun h => ?_⟩
  · by_cases hr : r2 = 0
    · rw [if_pos hr]
      by_cases hx : l2 0 7 = l 0 7
      · rw [if_pos hx]; exact Or.inl rfl
      · rw [if_neg hx]; exact Or.inr rfl
    · rw [if_neg hr]; exact Or.inr rfl
  · obtain ⟨h1, h2⟩ := hrz h
    exact ⟨rfl, (h12.2.2.2.2.1 h1).2, h2⟩
  · by_cases hr : r2 = 0
    · rw [if_pos hr] at h
      by_cases hx : l2 0 7 = l 0 7
      · rw [if_pos hx] at h; exact absurd rfl h
      · have := pv_xc_lt hmo hnew hx
        have := pv_lc_mo h12.2.2.2.1
        omega
    · have := h12.2.2.2.2.2 hr rfl
      have := pv_xc_mo (B := B) hmo
      omega
  · obtain ⟨h1, h2⟩ := hrz h
    have hg2 := (h12.2.2.2.2.1 h1).2
    have hb0 := b2.2.2.2.2.1 h1
    have hg1 := (a2.2.2.2.2.1 hb0.1).2
    have hx1 : l1 0 7 = l 0 7 := by
      refine pv_bt_ext fun c _ => ?_
      cases hb9 : pv_bt (l 0 7) c with
      | true => exact c3 c hb9
      | false =>
        cases hb8 : pv_bt (l1 0 7) c with
        | false => rfl
        | true =>
          have := d3 c hb8
          rw [h2, hb9] at this
          cases this
    refine ⟨a3 hb0.1, fun a ha h0 => by have h9 := b3 h1 a ha h0; rw [hg1] at h9; exact h9, fun c hc he hi => ?_⟩
    rw [← h2]
    rcases he with he | he
    · exact d3 c (c5 (by rw [hg2, he]; exact hi) c hc he)
    · exact d5 (by rw [hg2, hx1, he]; exact hi) c hc he
/-- one round -/
theorem pv_fo32 {g0 : ST} {l0 : SL} (hfv : pv_fv g0) (hok : pv_ok n w n2 w2 B N M ch ph) (hrg : pv_rg w2 B ch) (hw : pv_wys B w wb) (htk : pv_tk B w wb ph) (hev : ∀ p, p < B → w 8 p = 23 → ixb (w 9 p) 250 = true) (hsv : pv_sv B w) :
    ∃ r g' l', fX5_foldNumbers_L32 n w n2 w2 NF 0 0 g0 l0 = some (r, g', l') ∧ pv_lb9 B 0 g0 (l0 0 7) r g' (l' 0 7) ∧ (∀ q i, ¬ (q = 0 ∧ i = 7) → l' q i = l0 q i) ∧ (r = 0 → ∀ b, b < B → pv_bt (l0 0 7) b = true → pv_cfb B w w2 g0 (l0 0 7) ch ph wb b) := by
  obtain ⟨⟨hw0, hB0, hB⟩, _⟩ := id hok
  obtain ⟨t, e1, h1, h2, h3⟩ := pv_for (G := fun k x (t : Int32 × ST × SL) => fX5_foldNumbers_L32 n w n2 w2 k t.1 x t.2.1 t.2.2) (hi := B)
    (Inv := fun k (t : Int32 × ST × SL) => pv_lb9 B 0 g0 (l0 0 7) t.1 t.2.1 (t.2.2 0 7) ∧ (∀ q i, ¬ (q = 0 ∧ i = 7) → t.2.2 q i = l0 q i) ∧ (t.1 = 0 → ∀ b, b < k → pv_bt (l0 0 7) b = true → pv_cfb B w w2 g0 (l0 0 7) ch ph wb b))
    (Q := fun t : Int32 × ST × SL => pv_lb9 B 0 g0 (l0 0 7) t.1 t.2.1 (t.2.2 0 7) ∧ (∀ q i, ¬ (q = 0 ∧ i = 7) → t.2.2 q i = l0 q i) ∧ (t.1 = 0 → ∀ b, b < B → pv_bt (l0 0 7) b = true → pv_cfb B w w2 g0 (l0 0 7) ch ph wb b))
    (fun m k t hk hI => by
      obtain ⟨i1, i2, i3⟩ := hI
      obtain ⟨j1, j2, j3, j4, j5, j6, j7, j8⟩ := id i1
      have hform : fX5_foldNumbers_L32 n w n2 w2 (m + 1) t.1 (pu_I k) t.2.1 t.2.2 = (if pv_b (pv_bt (t.2.2 0 7) k) = 0 then fX5_foldNumbers_L32 n w n2 w2 m t.1 (pu_I (k + 1)) t.2.1 t.2.2 else ((fX5_learnBlock t.2.1 t.2.2 n w (pu_I k) n2 w2).bind fun (o_9 : Int32 × ST × SL) => (if (o_9.1) = 0 then fX5_foldNumbers_L32 n w n2 w2 m t.1 (pu_I (k + 1)) o_9.2.1 o_9.2.2 else fX5_foldNumbers_L32 n w n2 w2 m 1 (pu_I (k + 1)) o_9.2.1 o_9.2.2))) := by
        show (if (w 0 0) ≤ pu_I k then some (t.1, t.2.1, t.2.2) else ((fX11_holds (t.2.2 0 7) (pu_I k)).bind fun (o_6 : Int32) => (if o_6 = 0 then (fX5_foldNumbers_J65 (fX5_foldNumbers_L32 n w n2 w2 m) (pu_I k) t.1 t.2.1 t.2.2) else ((fX5_learnBlock t.2.1 t.2.2 n w (pu_I k) n2 w2).bind fun (o_9 : Int32 × ST × SL) => (if (o_9.1) = 0 then (fX5_foldNumbers_J65 (fX5_foldNumbers_L32 n w n2 w2 m) (pu_I k) t.1 (o_9.2.1) (o_9.2.2)) else (fX5_foldNumbers_J65 (fX5_foldNumbers_L32 n w n2 w2 m) (pu_I k) 1 (o_9.2.1) (o_9.2.2))))))) = _
        unfold fX5_foldNumbers_J65
        rw [hw0, if_neg (by rw [pu_le (by omega) (by omega)]; omega), pv_holds (by omega), Option.bind_some, pu_su]
      rw [hform]
      cases hb : pv_bt (t.2.2 0 7) k with
      | false =>
        rw [if_pos (by decide)]
        refine ⟨t, rfl, i1, i2, fun h0 b hbk hbit => ?_⟩
        by_cases e : b = k
        · exfalso
          rw [e, ← (j7 h0).2.2, hb] at hbit
          cases hbit
        · exact i3 h0 b (by omega) hbit
      | true =>
        rw [if_neg (by decide)]
        obtain ⟨r, g2, l2, f1, f2, f3, f4⟩ := pv_learnBlock (g := t.2.1) (l := t.2.2) (j3 hfv) hok hrg hw htk hev hsv hk
        obtain ⟨k1, k2, k3, k4, k5, k6, k7, k8⟩ := f2
        rw [f1, Option.bind_some]
        refine ⟨(if r = 0 then t.1 else 1, g2, l2), ?_, ⟨?_, fun q a b => (k2 q a b).trans (j2 q a b), fun h => k3 (j3 h), Nat.le_trans j4 k4, fun c h => k5 c (j5 c h), fun c h => (k6 c h).elim (j6 c) Or.inr, fun h => ?_, fun h _ => ?_⟩, fun q i h => (f3 q i h).trans (i2 q i h), fun h0 b hbk hbit => ?_⟩
        · show (if r = 0 then _ else _) = fX5_foldNumbers_L32 n w n2 w2 m (if r = 0 then t.1 else 1) (pu_I (k + 1)) g2 l2
          by_cases hr : r = 0
          · rw [if_pos hr, if_pos hr]
          · rw [if_neg hr, if_neg hr]
        · show (if r = 0 then t.1 else 1) = 0 ∨ (if r = 0 then t.1 else 1) = 1
          by_cases hr : r = 0
          · rw [if_pos hr]; exact j1
          · rw [if_neg hr]; exact Or.inr rfl
        · have h : (if r = 0 then t.1 else 1) = (0 : Int32) := h
          by_cases hr : r = 0
          · rw [if_pos hr] at h
            obtain ⟨q1, q2, q3⟩ := k7 hr
            obtain ⟨p1, p2, p3⟩ := j7 h
            exact ⟨rfl, q2.trans p2, q3.trans p3⟩
          · rw [if_neg hr] at h; exact absurd h (by decide)
        · have h : (if r = 0 then t.1 else 1) ≠ (0 : Int32) := h
          show pv_lc g0 + pv_xc B (l0 0 7) < pv_lc g2 + pv_xc B (l2 0 7)
          have m1 := pv_xc_mo (B := B) k5
          have m2 := pv_xc_mo (B := B) j5
          by_cases hr : r = 0
          · rw [if_pos hr] at h
            have := j8 h rfl
            omega
          · have := k8 hr rfl
            omega
        · have h0 : (if r = 0 then t.1 else 1) = (0 : Int32) := h0
          by_cases hr : r = 0
          · rw [if_pos hr] at h0
            obtain ⟨p1, p2, p3⟩ := j7 h0
            by_cases e : b = k
            · have h9 := f4 hr
              rw [p2, p3] at h9
              rw [e]
              exact h9
            · exact i3 h0 b (by omega) hbit
          · rw [if_neg hr] at h0; exact absurd h0 (by decide))
    (fun m t hI => ⟨t, by
      show (if (w 0 0) ≤ pu_I B then some (t.1, t.2.1, t.2.2) else _) = _
      rw [hw0, if_pos (Int32.le_refl _)], hI⟩)
    B 0 NF (0, g0, l0) (by omega) (by have := pv_NF; omega) ⟨⟨Or.inl rfl, fun _ _ _ => rfl, fun h => h, Nat.le_refl _, fun _ h => h, fun _ h => Or.inl h, fun _ => ⟨rfl, rfl, rfl⟩, fun h => absurd rfl h⟩, fun _ _ _ => rfl, fun _ b hb => by omega⟩
  exact ⟨t.1, t.2.1, t.2.2, e1, h1, h2, h3⟩
/-- rounds until nothing is learnt -/
theorem pv_fo17 (hok : pv_ok n w n2 w2 B N M ch ph) (hrg : pv_rg w2 B ch) (hw : pv_wys B w wb) (htk : pv_tk B w wb ph) (hev : ∀ p, p < B → w 8 p = 23 → ixb (w 9 p) 250 = true) (hsv : pv_sv B w) :
    ∀ (m j k : Nat) (r : Int32) (g : ST) (l : SL), pv_fv g → (r ≠ 0 → 1000 - (pv_lc g + pv_xc B (l 0 7)) ≤ m) → (r = 0 → ∀ b, b < B → pv_bt (l 0 7) b = true → pv_cfb B w w2 g (l 0 7) ch ph wb b) → j + m < 900000 → m + 1 < k →
      ∃ g' l', fX5_foldNumbers_L17 n w n2 w2 k r (pu_I j) g l = some (g', l') ∧ pv_fv g' ∧ (∀ q, q ≠ 4 → q ≠ 5 → g' q = g q) ∧ (∀ c, pv_bt (l 0 7) c = true → pv_bt (l' 0 7) c = true) ∧ (∀ q i, ¬ (q = 0 ∧ i = 7) → l' q i = l q i) ∧ (∀ b, b < B → pv_bt (l' 0 7) b = true → pv_cfb B w w2 g' (l' 0 7) ch ph wb b) := by
  intro m
  induction m with
  | zero =>
    intro j k r g l hfv hm h0 hj hk
    obtain ⟨k', rfl⟩ : ∃ k', k = k' + 1 := ⟨k - 1, by omega⟩
    by_cases hr : r = 0
    · refine ⟨g, l, ?_, hfv, fun _ _ _ => rfl, fun _ h => h, fun _ _ _ => rfl, h0 hr⟩
      show (if r = 0 then some (g, l) else _) = _
      rw [if_pos hr]
    · exfalso
      have h9 := hm hr
      have h1 := pv_lc_le g
      have h2 := List.length_filter_le (fun c => pv_bt (l 0 7) c) (List.range B)
      rw [List.length_range] at h2
      have h3 : pv_xc B (l 0 7) ≤ B := h2
      have hB := hok.1.2.2
      omega
  | succ m ih =>
    intro j k r g l hfv hm h0 hj hk
    obtain ⟨k', rfl⟩ : ∃ k', k = k' + 1 := ⟨k - 1, by omega⟩
    by_cases hr : r = 0
    · refine ⟨g, l, ?_, hfv, fun _ _ _ => rfl, fun _ h => h, fun _ _ _ => rfl, h0 hr⟩
      show (if r = 0 then some (g, l) else _) = _
      rw [if_pos hr]
    · obtain ⟨r2, g2, l2, f1, f2, f3, f4⟩ := pv_fo32 (g0 := g) (l0 := l) hfv hok hrg hw htk hev hsv
      obtain ⟨k1, k2, k3, k4, k5, k6, k7, k8⟩ := f2
      have h9 := hm hr
      obtain ⟨g', l', q1, q2, q3, q4, q5, q6⟩ := ih (j + 1) k' r2 g2 l2 (k3 hfv) (fun h => by have := k8 h rfl; omega) (fun h => by
        obtain ⟨_, p2, p3⟩ := k7 h
        rw [p2, p3]
        exact f4 h) (by omega) (by omega)
      refine ⟨g', l', ?_, q2, fun q a b => (q3 q a b).trans (k2 q a b), fun c h => q4 c (k5 c h), fun q i h => (q5 q i h).trans (f3 q i h), q6⟩
      show (if r = 0 then some (g, l) else (if 1000000 ≤ pu_I j then some (g, l) else ((fX5_foldNumbers_L32 n w n2 w2 NF 0 0 g l).bind fun (o32 : Int32 × ST × SL) => ((fX5_foldNumbers_L17 n w n2 w2 k') (o32.1) (pu_I j + 1) (o32.2.1) (o32.2.2))))) = _
      rw [if_neg hr, if_neg (by rw [show (1000000 : Int32) = pu_I 1000000 from rfl, pu_le (by decide) (by omega)]; omega), f1, Option.bind_some, pu_su, q1]
end FM
