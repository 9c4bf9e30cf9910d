/-! pure side, stores 12: lifting, whole -/
def pv_sl (ch : Nat → List Nat) : Nat → Nat
  | 0 => 0
  | b + 1 => pv_sl ch b + (ch b).length
def pv_cat (ch : Nat → List Nat) : Nat → List Nat
  | 0 => []
  | b + 1 => pv_cat ch b ++ ch b
theorem pv_cat_len (ch : Nat → List Nat) : ∀ b, (pv_cat ch b).length = pv_sl ch b := by
  intro b
  induction b with
  | zero => rfl
  | succ b ih =>
    show (pv_cat ch b ++ ch b).length = pv_sl ch b + (ch b).length
    rw [List.length_append, ih]
theorem pv_cat_mem {ch : Nat → List Nat} {a : Nat} : ∀ b, a ∈ pv_cat ch b → ∃ c, c < b ∧ a ∈ ch c := by
  intro b
  induction b with
  | zero => intro h; cases h
  | succ b ih =>
    intro h
    rcases List.mem_append.mp h with h | h
    · obtain ⟨c, h1, h2⟩ := ih h
      exact ⟨c, by omega, h2⟩
    · exact ⟨b, by omega, h⟩
theorem pv_sl_le {B N : Nat} {ch : Nat → List Nat} (hd : pv_dis B N ch) : pv_sl ch B ≤ N := by
  have h : ∀ b, b ≤ B → (pv_cat ch b).Nodup := by
    intro b
    induction b with
    | zero => intro _; exact List.nodup_nil
    | succ b ih =>
      intro hb
      refine List.nodup_append.mpr ⟨ih (by omega), hd.2.1 b (by omega), fun a ha z hz e => ?_⟩
      subst e
      obtain ⟨c, h1, h2⟩ := pv_cat_mem b ha
      have := hd.2.2 c b a (by omega) (by omega) h2 hz
      omega
  rw [← pv_cat_len]
  exact pv_len N _ (h B (Nat.le_refl _)) fun a ha => by
    obtain ⟨c, h1, h2⟩ := pv_cat_mem B ha
    exact hd.1 c h1 a h2
def pv_li (B N : Nat) (D : Nat → Nat → Prop) (ph : Nat → List Nat) (w w2 : ST) (ch : Nat → List Nat) (g' w' w2' : ST) (ch' : Nat → List Nat) : Prop :=
  pv_stc B w' w2' ch' ∧ pv_inv B N D w' w2' ch' ph g' ∧ (∀ r, r ≠ 4 → r ≠ 5 → w' r = w r) ∧ (∀ r, r ≠ 6 → w2' r = w2 r) ∧ (∀ z, (∃ c, c < B ∧ z ∈ ch' c) ↔ ∃ c, c < B ∧ z ∈ ch c) ∧
  (∀ call ar j e m q r, pu_run (pv_F w w2 ch ph) call ar j 0 0 (e, m, q) = some r → pu_run (pv_F w' w2' ch' ph) call ar j 0 0 (e, m, q) = some r)
section LC
variable {n n2 : Nat → Nat} {B N M : Nat} {ph : Nat → List Nat} {D : Nat → Nat → Prop}
theorem pv_li_tr {w w2 g1 w1 w3 g2 w4 w5 : ST} {ch c1 c2 : Nat → List Nat} (a : pv_li B N D ph w w2 ch g1 w1 w3 c1) (b : pv_li B N D ph w1 w3 c1 g2 w4 w5 c2) : pv_li B N D ph w w2 ch g2 w4 w5 c2 :=
  ⟨b.1, b.2.1, fun r h4 h5 => by rw [b.2.2.1 r h4 h5, a.2.2.1 r h4 h5], fun r h6 => by rw [b.2.2.2.1 r h6, a.2.2.2.1 r h6], fun z => (b.2.2.2.2.1 z).trans (a.2.2.2.2.1 z), fun call ar j e m q r h => b.2.2.2.2.2 call ar j e m q r (a.2.2.2.2.2 call ar j e m q r h)⟩
theorem pv_F_w {w w' w2 : ST} {ch : Nat → List Nat} (h : ∀ r, r ≠ 4 → r ≠ 5 → w' r = w r) : pv_F w' w2 ch ph = pv_F w w2 ch ph := by
  have hPP : pv_P w' = pv_P w := by funext z; unfold pv_P; rw [h 19 (by decide) (by decide), h 21 (by decide) (by decide)]
  unfold pv_F
  rw [hPP, h 8 (by decide) (by decide), h 9 (by decide) (by decide), h 10 (by decide) (by decide), h 11 (by decide) (by decide)]
theorem pv_inv_w {w w' w2 g : ST} {ch : Nat → List Nat} (h : ∀ r, r ≠ 4 → r ≠ 5 → w' r = w r) (hi : pv_inv B N D w w2 ch ph g) : pv_inv B N D w' w2 ch ph g := by
  obtain ⟨v1, v2, v3, v4, v5, v6, v7, v8⟩ := hi
  refine ⟨v1, v2, v3, v4, ⟨fun b hb a ha => ?_, v5.2⟩, ?_, ?_, v8⟩
  · rw [h 19 (by decide) (by decide)]
    exact v5.1 b hb a ha
  · rw [pv_F_w h]; exact v6
  · rw [pv_F_w h]; exact v7
theorem pv_liftBlock {w w2 g : ST} {ch : Nat → List Nat} (hB : B ≤ 60) (hN2 : N ≤ n2 2) (hN3 : N ≤ n2 3) (hN4 : N ≤ n2 4) (hN5 : N ≤ n2 5) (hN6 : N ≤ n2 6) (hN : N < 50000) {X : Int64} {h P b : Nat} (hP : P < B) (hb : b < B) (hbX : pv_bt X b = true) (hnP : pv_bt X P = false) (hix : ∀ b, b < B → ∀ a ∈ ph b, ixb (w 19 a) 250 = true)
    (hst : pv_stc B w w2 ch) (hinv : pv_inv B N D w w2 ch ph g) (hl : pu_lop (pv_F w w2 ch ph) B D h (fun c => pv_bt X c = true)) (hsP : pu_sc (pv_F w w2 ch ph) P h) (hon : ∀ p, p < B → pu_sc (pv_F w w2 ch ph) p h → ¬ pv_bt X p = true → p = P) :
    ∃ g' w' w2' ch' mv, fX5_liftBlock g w (pu_I b) X (pu_I P) n2 w2 = some (pu_I mv, g', w', w2') ∧ mv ≤ (ch b).length ∧ pv_li B N D ph w w2 ch g' w' w2' ch' ∧ (∀ c, c ≠ b → c ≠ P → ch' c = ch c) := by
  obtain ⟨w1, a1, a2, a3, a4⟩ := pv_takeSteps hB hb hst
  have hdis := hinv.1
  have hF := pv_F_w (ph := ph) (w2 := w2) (ch := ch) a3
  have hck : pv_up (pv_up ch b []) b (pv_up ch b [] b ++ ch b) = ch := by
    rw [pv_up_up, pv_up_s, List.nil_append]
    exact pv_up_id rfl
  have hd1 : pv_dis B N (pv_up ch b []) := pv_dis_all hdis fun c => by
    by_cases hc : c = b
    · subst hc; rw [pv_up_s]; exact List.nil_sublist _
    · rw [pv_up_n hc]; exact List.Sublist.refl _
  have hlen := pv_len N (ch b) (hdis.2.1 b hb) (hdis.1 b hb)
  obtain ⟨g', w', w2', ck', mv', e1, e2, e3, e4, e5, e6, e7, e8, e9, e10, e11⟩ := pv_lb (n2 := n2) (D := D) (ph := ph) hB hN2 hN3 hN4 hN5 hN6 hN (X := X) (h := h) hP hb hbX hnP (w0 := w1) (by rw [a3 19 (by decide) (by decide)]; exact hix) (ch b) (pv_up ch b []) g w1 w2 NF 0 (w 4 b) (by have := pv_NF; omega) rfl a2 hd1 (hst.1 b hb)
    (fun a ha => ⟨hdis.1 b hb a ha, fun c hc hin => by
      by_cases hcb : c = b
      · subst hcb; rw [pv_up_s] at hin; cases hin
      · rw [pv_up_n hcb] at hin
        exact hcb (hdis.2.2 c b a hc hb hin ha)⟩) (hdis.2.1 b hb) (by rw [hck]; exact pv_inv_w a3 hinv) (by rw [hck, hF]; exact hl) (by rw [hck, hF]; exact hsP) (by rw [hck, hF]; exact hon)
  rw [hck] at e9 e10
  rw [hF] at e10
  refine ⟨g', w', w2', ck', mv', ?_, by omega, ⟨e4, e5, fun r h4 h5 => by rw [e6 r h4 h5, a3 r h4 h5], e7, e9, e10⟩, fun c hcb hcP => by rw [e11 c hcb hcP, pv_up_n hcb]⟩
  unfold fX5_liftBlock
  rw [a1, Option.bind_some]
  have e1 : fX5_liftBlock_L10 (pu_I b) X (pu_I P) n2 NF 0 (w 4 b) g w1 w2 = some (pu_I mv', g', w', w2') := e1
  rw [e1, Option.bind_some]
/-- the block ahead -/
theorem pv_blockAhead {w w2 : ST} {ch : Nat → List Nat} {wb : Nat → Nat} {l : SL} (hB : B ≤ 60) (hw : pv_wys B w wb) {h : Nat} (hh : h < B) (hsu : ∀ b c, b < B → pu_sc (pv_F w w2 ch ph) b c → w 10 b = pu_I c ∨ w 11 b = pu_I c) (hj : ∀ p, p < B → w 8 p = 22 → w 11 p < 0) :
    ∃ o, fX5_blockAhead w l (pu_I h) = some o ∧ (o < 0 ∨ ∃ P, P < B ∧ o = pu_I P ∧ pv_bt (l 17 h) P = false ∧ pu_sc (pv_F w w2 ch ph) P h ∧ ∀ p, p < B → pu_sc (pv_F w w2 ch ph) p h → ¬ pv_bt (l 17 h) p = true → p = P) := by
  have hm := hw.2.1 h hh
  have h120 := hw.2.2.1 (h + 1) (by omega)
  have hrun : ∀ (m i k : Nat) (v : Int32), i + m = wb (h + 1) - wb h → m < k →
      ((v < 0 ∧ ∀ j, j < i → pv_bt (l 17 h) (nn (w 15 (wb h + j))) = true) ∨ ∃ P, P < B ∧ v = pu_I P ∧ pv_bt (l 17 h) P = false ∧ (w 10 P = pu_I h ∨ w 11 P = pu_I h) ∧ ∀ j, j < i → pv_bt (l 17 h) (nn (w 15 (wb h + j))) = false → nn (w 15 (wb h + j)) = P) →
      ∃ t, fX5_blockAhead_L4 w l (pu_I h) k v (pu_I i) = some t ∧ (t = Sum.inl (-1) ∨ ∃ v', t = Sum.inr v' ∧ (v' < 0 ∨ ∃ P, P < B ∧ v' = pu_I P ∧ pv_bt (l 17 h) P = false ∧ (w 10 P = pu_I h ∨ w 11 P = pu_I h) ∧ ∀ j, j < wb (h + 1) - wb h → pv_bt (l 17 h) (nn (w 15 (wb h + j))) = false → nn (w 15 (wb h + j)) = P)) := by
    intro m
    induction m with
    | zero =>
      intro i k v hi hk hI
      obtain ⟨k', rfl⟩ : ∃ k', k = k' + 1 := ⟨k - 1, by omega⟩
      have hi : i = wb (h + 1) - wb h := by omega
      subst hi
      refine ⟨Sum.inr v, ?_, Or.inr ⟨v, rfl, hI.elim (fun c => Or.inl c.1) Or.inr⟩⟩
      show ((fX1_waysTo w (pu_I h)).bind fun (o_1 : Int32) => (if o_1 ≤ pu_I (wb (h + 1) - wb h) then some (Sum.inr v) else _)) = _
      rw [pv_waysTo hB hw hh, Option.bind_some, if_pos (Int32.le_refl _)]
    | succ m ih =>
      intro i k v hi hk hI
      obtain ⟨k', rfl⟩ : ∃ k', k = k' + 1 := ⟨k - 1, by omega⟩
      obtain ⟨p, hp, hp2, hp3⟩ := hw.2.2.2.1 h (wb h + i) hh (by omega) (by omega)
      have hform : fX5_blockAhead_L4 w l (pu_I h) (k' + 1) v (pu_I i) = (if pv_bt (l 17 h) p = true then fX5_blockAhead_L4 w l (pu_I h) k' v (pu_I (i + 1)) else (if v < 0 then fX5_blockAhead_L4 w l (pu_I h) k' (pu_I p) (pu_I (i + 1)) else some (Sum.inl (-1)))) := by
        show ((fX1_waysTo w (pu_I h)).bind fun (o_1 : Int32) => (if o_1 ≤ pu_I i then some (Sum.inr v) else ((fX1_wayFrom w (pu_I h) (pu_I i)).bind fun (o_4 : Int32) => (if ixb (pu_I h) 60 = true then ((fX11_holds (l 17 (nn (pu_I h))) o_4).bind fun (o_7 : Int32) => (if o_7 = 0 then (if v < 0 then (fX5_blockAhead_J44 (fX5_blockAhead_L4 w l (pu_I h) k') (pu_I i) o_4) else some (Sum.inl (-1))) else (fX5_blockAhead_J44 (fX5_blockAhead_L4 w l (pu_I h) k') (pu_I i) v))) else none)))) = _
        rw [pv_waysTo hB hw hh, Option.bind_some, if_neg (by rw [pu_le (by omega) (by omega)]; omega), pv_wayFrom hB hw hh (by omega), Option.bind_some, hp2, if_pos ((pu_ix (by omega)).mpr (by omega)), pu_nn (by omega), pv_holds (by omega), Option.bind_some]
        unfold fX5_blockAhead_J44
        rw [pu_su]
        by_cases hx : pv_bt (l 17 h) p = true
        · rw [if_pos hx, hx, if_neg (by decide)]
        · rw [if_neg hx]
          have hx : pv_bt (l 17 h) p = false := by simpa using hx
          rw [hx, if_pos (by decide)]
      rw [hform]
      by_cases hx : pv_bt (l 17 h) p = true
      · rw [if_pos hx]
        refine ih (i + 1) k' v (by omega) (by omega) ?_
        rcases hI with ⟨h1, h2⟩ | ⟨P, h1, h2, h3, h4, h5⟩
        · refine Or.inl ⟨h1, fun j hj9 => ?_⟩
          by_cases hji : j = i
          · rw [hji, hp2, pu_nn (by omega)]; exact hx
          · exact h2 j (by omega)
        · refine Or.inr ⟨P, h1, h2, h3, h4, fun j hj9 hj2 => ?_⟩
          by_cases hji : j = i
          · rw [hji, hp2, pu_nn (by omega), hx] at hj2; cases hj2
          · exact h5 j (by omega) hj2
      · rw [if_neg hx]
        have hxf : pv_bt (l 17 h) p = false := by simpa using hx
        by_cases hv : v < 0
        · rw [if_pos hv]
          refine ih (i + 1) k' (pu_I p) (by omega) (by omega) ?_
          rcases hI with ⟨h1, h2⟩ | ⟨P, h1, h2, h3, h4, h5⟩
          · refine Or.inr ⟨p, hp, rfl, hxf, hp3, fun j hj9 hj2 => ?_⟩
            by_cases hji : j = i
            · rw [hji, hp2, pu_nn (by omega)]
            · rw [h2 j (by omega)] at hj2; cases hj2
          · rw [h2] at hv
            exact absurd hv (pu_ge (by omega))
        · rw [if_neg hv]
          exact ⟨_, rfl, Or.inl rfl⟩
  obtain ⟨t, t1, t2⟩ := hrun (wb (h + 1) - wb h) 0 NF (-1) (by omega) (by have := pv_NF; omega) (Or.inl ⟨by decide, fun j hj9 => absurd hj9 (Nat.not_lt_zero _)⟩)
  have t1 : fX5_blockAhead_L4 w l (pu_I h) NF (-1) 0 = some t := t1
  unfold fX5_blockAhead fX5_blockAhead_J69 fX5_blockAhead_J70
  rw [t1, Option.bind_some]
  rcases t2 with rfl | ⟨v, rfl, hv⟩
  · exact ⟨-1, rfl, Or.inl (by decide)⟩
  · show ∃ o, (if v < 0 then some (-1) else (if ixb v 60 = true then (if (w 8 (nn v)) = 22 then some v else some (-1)) else none)) = some o ∧ _
    rcases hv with hv | ⟨P, h1, h2, h3, h4, h5⟩
    · exact ⟨-1, by rw [if_pos hv], Or.inl (by decide)⟩
    · subst h2
      rw [if_neg (pu_ge (by omega)), if_pos ((pu_ix (by omega)).mpr (by omega)), pu_nn (by omega)]
      by_cases h22 : w 8 P = 22
      · rw [if_pos h22]
        have hs : pu_sc (pv_F w w2 ch ph) P h := by
          refine ⟨?_, Or.inl ?_⟩
          · show w 8 P ≠ 24
            rw [h22]; decide
          · show h = nn (w 10 P)
            rcases h4 with h4 | h4
            · rw [h4, pu_nn (by omega)]
            · have := hj P h1 h22
              rw [h4] at this
              exact absurd this (pu_ge (by omega))
        refine ⟨_, rfl, Or.inr ⟨P, h1, rfl, h3, hs, fun p hp hsc hn => ?_⟩⟩
        obtain ⟨j, j1, j2, j3⟩ := hw.2.2.2.2.1 h p hh hp (hsu p h hp hsc)
        have h9 := h5 (j - wb h) (by omega)
        rw [show wb h + (j - wb h) = j by omega, j3, pu_nn (by omega)] at h9
        exact h9 (by simpa using hn)
      · rw [if_neg h22]
        exact ⟨-1, rfl, Or.inl (by decide)⟩
end LC
