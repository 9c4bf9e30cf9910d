/-! pure side, stores 36: the walk's loop, and the new numbers -/
section WB
variable {B : Nat} {w : ST}
theorem pv_3le {x : Int32} (h : x = 0 ∨ x = 1 ∨ x = 2) : nn x ≤ 2 := by
  rcases h with rfl | rfl | rfl <;> decide
theorem pv_wk_loop (hB : B ≤ 60) (hsv : pv_sv B w) :
    ∀ (m n k : Nat) (s : ST) (P Fi : List Nat), pv_wkI B w s P Fi → 3 * (B - P.length - Fi.length) + pv_ws s P = m → n + m = 3 * B → m < k →
      ∃ s' Fi', fX8_walk_L37 w k (pu_I Fi.length) (pu_I P.length) (pu_I n) s = some (pu_I Fi'.length, s') ∧ pv_wkI B w s' [] Fi' ∧ (∀ r, r ≠ 2 → r ≠ 3 → r ≠ 4 → s' r = s r) := by
  intro m
  induction m with
  | zero =>
    intro n k s P Fi hI hm hn hk
    obtain ⟨k', rfl⟩ : ∃ k', k = k' + 1 := ⟨k - 1, by omega⟩
    cases P with
    | nil =>
      refine ⟨s, Fi, ?_, hI, fun r _ _ _ => rfl⟩
      rfl
    | cons b P =>
      exfalso
      have h2 := pv_3le (hI.2.1 b List.mem_cons_self).2
      have hm : 3 * (B - (P.length + 1) - Fi.length) + ((3 - nn (s 2 b)) + pv_ws s P) = 0 := hm
      omega
  | succ m ih =>
    intro n k s P Fi hI hm hn hk
    obtain ⟨k', rfl⟩ : ∃ k', k = k' + 1 := ⟨k - 1, by omega⟩
    cases P with
    | nil =>
      refine ⟨s, Fi, ?_, hI, fun r _ _ _ => rfl⟩
      rfl
    | cons b P =>
      have hm : 3 * (B - (P.length + 1) - Fi.length) + ((3 - nn (s 2 b)) + pv_ws s P) = m + 1 := hm
      have hb := hI.2.1 b List.mem_cons_self
      have hbB := hb.1
      have hlen := pv_len B ((b :: P) ++ Fi) hI.1 (fun x hx => by
        rcases List.mem_append.mp hx with hx | hx
        · exact (hI.2.1 x hx).1
        · exact (hI.2.2.1 x hx).1)
      rw [List.length_append] at hlen
      have hlen : P.length + 1 + Fi.length ≤ B := hlen
      have hbP : b ∉ P := (List.nodup_cons.mp (List.nodup_append.mp hI.1).1).1
      have hm1 : pu_I (P.length + 1) - 1 = pu_I P.length := pv_sub (b := 1) (by omega)
      have hm2 : pu_I (P.length + 1) + (-1) = pu_I P.length := by
        rw [← pu_su, Int32.add_assoc]
        show pu_I P.length + 0 = _
        exact Int32.add_zero _
      have hpb : s 3 P.length = pu_I b := hI.2.2.2.2.2.2.2.2.2.2.1.1
      have hbi : ixb (pu_I b) 60 = true := (pu_ix (by omega)).mpr (by omega)
      have hnb : nn (pu_I b) = b := pu_nn (by omega)
      have hform : fX8_walk_L37 w (k' + 1) (pu_I Fi.length) (pu_I (P.length + 1)) (pu_I n) s = (if s 2 b = 0 then (fX8_walk_J101 (fX8_walk_L37 w k') (pu_I Fi.length) (pu_I (P.length + 1)) (pu_I n) s (w 11 b)) else (if s 2 b = 1 then (fX8_walk_J101 (fX8_walk_L37 w k') (pu_I Fi.length) (pu_I (P.length + 1)) (pu_I n) s (w 10 b)) else (fX8_walk_J101 (fX8_walk_L37 w k') (pu_I Fi.length) (pu_I (P.length + 1)) (pu_I n) s (-1)))) := by
        show (if pu_I (P.length + 1) ≤ 0 then some (pu_I Fi.length, s) else (if 180 ≤ pu_I n then some (pu_I Fi.length, s) else (if ixb (pu_I (P.length + 1) - 1) 60 = true then (if ixb (s 3 (nn (pu_I (P.length + 1) - 1))) 60 = true then (if (s 2 (nn (s 3 (nn (pu_I (P.length + 1) - 1))))) = 0 then (if ixb (s 3 (nn (pu_I (P.length + 1) - 1))) 60 = true then (fX8_walk_J101 (fX8_walk_L37 w k') (pu_I Fi.length) (pu_I (P.length + 1)) (pu_I n) s (w 11 (nn (s 3 (nn (pu_I (P.length + 1) - 1)))))) else none) else (if ixb (s 3 (nn (pu_I (P.length + 1) - 1))) 60 = true then (if (s 2 (nn (s 3 (nn (pu_I (P.length + 1) - 1))))) = 1 then (if ixb (s 3 (nn (pu_I (P.length + 1) - 1))) 60 = true then (fX8_walk_J101 (fX8_walk_L37 w k') (pu_I Fi.length) (pu_I (P.length + 1)) (pu_I n) s (w 10 (nn (s 3 (nn (pu_I (P.length + 1) - 1)))))) else none) else (fX8_walk_J101 (fX8_walk_L37 w k') (pu_I Fi.length) (pu_I (P.length + 1)) (pu_I n) s (-1))) else none)) else none) else none))) = _
        rw [if_neg (by rw [show (0 : Int32) = pu_I 0 from rfl, pu_le (by omega) (by decide)]; omega), if_neg (by rw [show (180 : Int32) = pu_I 180 from rfl, pu_le (by decide) (by omega)]; omega), hm1, if_pos ((pu_ix (by omega)).mpr (by omega)), pu_nn (show P.length < 2147483648 by omega), hpb, if_pos hbi, hnb, if_pos hbi, if_pos hbi, if_pos hbi]
      rw [show pu_I (b :: P).length = pu_I (P.length + 1) from rfl, hform]
      -- a way was looked at
      have hgo : ∀ (kk : Int32) (y : Int32), ((kk = 1 ∧ s 2 b = 0) ∨ (kk = 2 ∧ s 2 b = 1)) → y = (if kk = 1 then w 11 b else w 10 b) → s 2 b + 1 = kk → nn kk = nn (s 2 b) + 1 → s 2 b ≠ 2 →
          ∃ s' Fi', fX8_walk_J101 (fX8_walk_L37 w k') (pu_I Fi.length) (pu_I (P.length + 1)) (pu_I n) s y = some (pu_I Fi'.length, s') ∧ pv_wkI B w s' [] Fi' ∧ (∀ r, r ≠ 2 → r ≠ 3 → r ≠ 4 → s' r = s r) := by
        intro kk y hkk hy hkk1 hkk2 hne2
        have hk2 : nn kk ≤ 2 := by rcases hkk with ⟨rfl, _⟩ | ⟨rfl, _⟩ <;> decide
        have hJ : fX8_walk_J101 (fX8_walk_L37 w k') (pu_I Fi.length) (pu_I (P.length + 1)) (pu_I n) s y = (if y < 0 then fX8_walk_L37 w k' (pu_I Fi.length) (pu_I (P.length + 1)) (pu_I (n + 1)) (upw s 2 b kk) else (if ixb y 60 = true then (if 0 ≤ (upw s 2 b kk 2 (nn y)) then fX8_walk_L37 w k' (pu_I Fi.length) (pu_I (P.length + 1)) (pu_I (n + 1)) (upw s 2 b kk) else (if ixb (pu_I (P.length + 1)) 60 = true then fX8_walk_L37 w k' (pu_I Fi.length) (pu_I (P.length + 1 + 1)) (pu_I (n + 1)) (upw (upw (upw s 2 b kk) 2 (nn y) 0) 3 (nn (pu_I (P.length + 1))) y) else none)) else none)) := by
          unfold fX8_walk_J101 fX8_walk_J128 fX8_walk_J173
          rw [hm1, pu_nn (show P.length < 2147483648 by omega), hpb, if_pos hbi, hnb, if_neg hne2, if_pos hbi, if_pos hbi]
          simp only [lt9]
          rw [hkk1, pu_su n, pu_su (P.length + 1)]
          by_cases c1 : y < 0
          · simp only [if_pos c1]
          · by_cases c2 : ixb y 60 = true
            · by_cases c3 : 0 ≤ upw s 2 b kk 2 (nn y)
              · simp only [if_neg c1, if_pos c2, if_pos c3]
              · simp only [if_neg c1, if_pos c2, if_neg c3]
            · simp only [if_neg c1, if_neg c2]
        rw [hJ]
        have hws : pv_ws (upw s 2 b kk) (b :: P) + 1 = pv_ws s (b :: P) := by
          show (3 - nn (upw s 2 b kk 2 b)) + pv_ws (upw s 2 b kk) P + 1 = (3 - nn (s 2 b)) + pv_ws s P
          have hwsP : pv_ws (upw s 2 b kk) P = pv_ws s P := pv_ws_e P fun c hc => by rw [pv_upw, if_neg fun h : 2 = 2 ∧ c = b => hbP (h.2 ▸ hc)]
          rw [hwsP, pv_upw, if_pos ⟨rfl, rfl⟩]
          omega
        have hws0 : pv_ws s (b :: P) = (3 - nn (s 2 b)) + pv_ws s P := rfl
        have hsame : (∀ c, c < B → y = pu_I c → ¬ upw s 2 b kk 2 c < 0) → ∃ s' Fi', fX8_walk_L37 w k' (pu_I Fi.length) (pu_I (P.length + 1)) (pu_I (n + 1)) (upw s 2 b kk) = some (pu_I Fi'.length, s') ∧ pv_wkI B w s' [] Fi' ∧ (∀ r, r ≠ 2 → r ≠ 3 → r ≠ 4 → s' r = s r) := by
          intro hno
          obtain ⟨s', Fi', q1, q2, q3⟩ := ih (n + 1) k' (upw s 2 b kk) (b :: P) Fi (pv_wk_k hkk hI fun c hc h => hno c hc (hy.trans h)) (by show 3 * (B - (P.length + 1) - Fi.length) + _ = m; omega) (by omega) (by omega)
          exact ⟨s', Fi', q1, q2, fun r h2 h3 h4 => by rw [q3 r h2 h3 h4, pv_upw_n h2]⟩
        by_cases c1 : y < 0
        · rw [if_pos c1]
          exact hsame fun c hc h => absurd c1 (by rw [h]; exact pu_ge (by omega))
        · rw [if_neg c1]
          obtain ⟨c, hc, hyc⟩ : ∃ c, c < B ∧ y = pu_I c := by
            have h9 := hsv b hbB
            rw [hy] at c1 ⊢
            by_cases h1 : kk = 1
            · rw [if_pos h1] at c1 ⊢
              exact h9.2.resolve_left c1
            · rw [if_neg h1] at c1 ⊢
              exact h9.1.resolve_left c1
          have hcn : nn y = c := by rw [hyc, pu_nn (by omega)]
          rw [if_pos (by rw [hyc]; exact (pu_ix (by omega)).mpr (by omega)), hcn]
          by_cases c3 : 0 ≤ upw s 2 b kk 2 c
          · rw [if_pos c3]
            refine hsame fun c' hc' h => ?_
            have : c' = c := pu_inj (by omega) (by omega) (by rw [← h, hyc])
            rw [this]
            exact Int32.not_lt.mpr c3
          · rw [if_neg c3]
            have hcn3 := Int32.not_le.mp c3
            have hI2 := pv_wk_p hB hkk hI hc (by rw [← hyc, hy]) hcn3
            have hlen2 := pv_len B ((c :: b :: P) ++ Fi) hI2.1 (fun x hx => by
              rcases List.mem_append.mp hx with hx | hx
              · exact (hI2.2.1 x hx).1
              · exact (hI2.2.2.1 x hx).1)
            rw [List.length_append] at hlen2
            have hlen2 : P.length + 1 + 1 + Fi.length ≤ B := hlen2
            rw [if_pos ((pu_ix (by omega)).mpr (by omega)), pu_nn (show P.length + 1 < 2147483648 by omega), hyc]
            have hcbP : c ∉ b :: P := fun h => (List.nodup_cons.mp hI2.1).1 (List.mem_append_left _ h)
            have hws2 : pv_ws (upw (upw (upw s 2 b kk) 2 c 0) 3 (P.length + 1) (pu_I c)) (c :: b :: P) = 3 + pv_ws (upw s 2 b kk) (b :: P) := by
              show (3 - nn (upw (upw (upw s 2 b kk) 2 c 0) 3 (P.length + 1) (pu_I c) 2 c)) + pv_ws (upw (upw (upw s 2 b kk) 2 c 0) 3 (P.length + 1) (pu_I c)) (b :: P) = _
              have hwsQ : pv_ws (upw (upw (upw s 2 b kk) 2 c 0) 3 (P.length + 1) (pu_I c)) (b :: P) = pv_ws (upw s 2 b kk) (b :: P) := pv_ws_e (b :: P) fun d hd => by rw [pv_upw_n (by decide), pv_upw, if_neg fun h : 2 = 2 ∧ d = c => hcbP (h.2 ▸ hd)]
              rw [hwsQ, pv_upw_n (by decide), pv_upw, if_pos ⟨rfl, rfl⟩]
              rfl
            obtain ⟨s', Fi', q1, q2, q3⟩ := ih (n + 1) k' _ (c :: b :: P) Fi hI2 (by show 3 * (B - (P.length + 1 + 1) - Fi.length) + _ = m; rw [hws2]; omega) (by omega) (by omega)
            exact ⟨s', Fi', q1, q2, fun r h2 h3 h4 => by rw [q3 r h2 h3 h4, pv_upw_n h3, pv_upw_n h2, pv_upw_n h2]⟩
      rcases hb.2 with e | e | e
      · rw [if_pos e]
        exact hgo 1 (w 11 b) (Or.inl ⟨rfl, e⟩) (by rw [if_pos rfl]) (by rw [e]; exact pv_01) (by rw [e]; decide) (by rw [e]; decide)
      · rw [if_neg (by rw [e]; decide), if_pos e]
        exact hgo 2 (w 10 b) (Or.inr ⟨rfl, e⟩) (by rw [if_neg (by decide)]) (by rw [e]; exact pv_12) (by rw [e]; decide) (by rw [e]; decide)
      · rw [if_neg (by rw [e]; decide), if_neg (by rw [e]; decide)]
        have hJ : fX8_walk_J101 (fX8_walk_L37 w k') (pu_I Fi.length) (pu_I (P.length + 1)) (pu_I n) s (-1) = fX8_walk_L37 w k' (pu_I (Fi.length + 1)) (pu_I P.length) (pu_I (n + 1)) (upw (upw s 4 Fi.length (pu_I b)) 2 b 3) := by
          unfold fX8_walk_J101 fX8_walk_J128 fX8_walk_J173
          rw [hm1, pu_nn (show P.length < 2147483648 by omega), hpb, if_pos hbi, hnb, if_pos e, if_pos ((pu_ix (by omega)).mpr (by omega))]
          simp only [lt9]
          rw [if_pos hbi, if_pos hbi]
          rw [pu_nn (show Fi.length < 2147483648 by omega), pv_upw_n (show (2 : Nat) ≠ 4 by decide), e, pv_23, if_pos pu_m1, hm2, pu_su n, pu_su Fi.length]
        rw [hJ]
        have hI2 := pv_wk_f e hI
        have hws : pv_ws (upw (upw s 4 Fi.length (pu_I b)) 2 b 3) P = pv_ws s P := pv_ws_e P fun c hc => by rw [pv_upw, if_neg fun h : 2 = 2 ∧ c = b => hbP (h.2 ▸ hc), pv_upw_n (by decide)]
        have h3 : nn (s 2 b) = 2 := by rw [e]; rfl
        have hF1 : (Fi ++ [b]).length = Fi.length + 1 := by rw [List.length_append]; rfl
        obtain ⟨s', Fi', q1, q2, q3⟩ := ih (n + 1) k' _ P (Fi ++ [b]) hI2 (by rw [hws, hF1]; omega) (by omega) (by omega)
        rw [hF1] at q1
        exact ⟨s', Fi', q1, q2, fun r h2 h3 h4 => by rw [q3 r h2 h3 h4, pv_upw_n h2, pv_upw_n h4]⟩
/-- the new numbers -/
theorem pv_wk_num {Fi : List Nat} (hB : B ≤ 60) (hnd : Fi.Nodup) (hlt : ∀ b ∈ Fi, b < B) (hlen : Fi.length ≤ 60) :
    ∀ (m i k : Nat) (s s0 : ST), i + m = Fi.length → m < k → (∀ j b, Fi[j]? = some b → s0 4 j = pu_I b) → (∀ r, r ≠ 1 → s r = s0 r) → (∀ j b, j < i → Fi[j]? = some b → s 1 b = pu_I (Fi.length - 1 - j)) → (∀ b, (∀ j, j < i → Fi[j]? ≠ some b) → s 1 b = s0 1 b) →
      ∃ s', fX8_walk_L182 (pu_I Fi.length, s0) k (pu_I i) s = some s' ∧ (∀ r, r ≠ 1 → s' r = s0 r) ∧ (∀ j b, Fi[j]? = some b → s' 1 b = pu_I (Fi.length - 1 - j)) ∧ (∀ b, b ∉ Fi → s' 1 b = s0 1 b) := by
  intro m
  induction m with
  | zero =>
    intro i k s s0 him hk h4 hr h1 h0
    obtain ⟨k', rfl⟩ : ∃ k', k = k' + 1 := ⟨k - 1, by omega⟩
    refine ⟨s, ?_, hr, fun j b hj => h1 j b ?_ hj, fun b hb => h0 b fun j _ h => hb (List.mem_of_getElem? h)⟩
    · show (if pu_I Fi.length ≤ pu_I i then some s else _) = _
      rw [if_pos ((pu_le (by omega) (by omega)).mpr (by omega))]
    · obtain ⟨h9, _⟩ := List.getElem?_eq_some_iff.mp hj
      omega
  | succ m ih =>
    intro i k s s0 him hk h4 hr h1 h0
    obtain ⟨k', rfl⟩ : ∃ k', k = k' + 1 := ⟨k - 1, by omega⟩
    have hi : i < Fi.length := by omega
    have hg : Fi[i]? = some Fi[i] := List.getElem?_eq_getElem hi
    have hbB := hlt _ (List.getElem_mem hi)
    have h4i : s 4 i = pu_I Fi[i] := by rw [hr 4 (by decide)]; exact h4 i _ hg
    have hsub : pu_I Fi.length - 1 - pu_I i = pu_I (Fi.length - 1 - i) := by
      rw [show pu_I Fi.length - 1 = pu_I (Fi.length - 1) from pv_sub (b := 1) (by omega)]
      exact pv_sub (by omega)
    have hform : fX8_walk_L182 (pu_I Fi.length, s0) (k' + 1) (pu_I i) s = fX8_walk_L182 (pu_I Fi.length, s0) k' (pu_I (i + 1)) (upw s 1 Fi[i] (pu_I (Fi.length - 1 - i))) := by
      show (if pu_I Fi.length ≤ pu_I i then some s else (if ixb (pu_I i) 60 = true then (if ixb (s 4 (nn (pu_I i))) 60 = true then (lt9 (upw s 1 (nn (s 4 (nn (pu_I i)))) (((pu_I Fi.length) - 1) - pu_I i)) fun (w31 : ST) => ((fX8_walk_L182 (pu_I Fi.length, s0) k') (pu_I i + 1) w31)) else none) else none)) = _
      rw [if_neg (by rw [pu_le (by omega) (by omega)]; omega), if_pos ((pu_ix (by omega)).mpr (by omega)), pu_nn (by omega), h4i, if_pos ((pu_ix (by omega)).mpr (by omega)), pu_nn (by omega), hsub, pu_su]
      simp only [lt9]
    rw [hform]
    refine ih (i + 1) k' _ s0 (by omega) (by omega) h4 (fun r h => by rw [pv_upw_n h, hr r h]) (fun j b hj hb => ?_) (fun b hb => ?_)
    · rw [pv_upw]
      by_cases e : b = Fi[i]
      · rw [if_pos ⟨rfl, e⟩]
        have : j = i := by
          obtain ⟨h8, h9⟩ := List.getElem?_eq_some_iff.mp hb
          exact (List.getElem_inj hnd).mp (h9.trans e)
        rw [this]
      · rw [if_neg fun h => e h.2]
        refine h1 j b ?_ hb
        by_cases h9 : j = i
        · exfalso
          subst h9
          rw [hg] at hb
          exact e (Option.some.inj hb).symm
        · omega
    · rw [pv_upw, if_neg fun h => hb i (by omega) (by rw [h.2]; exact hg)]
      exact h0 b fun j hj => hb j (by omega)
/-- the walk: the blocks that can be reached, in the order in which they are finished, and their numbers -/
theorem pv_walk (hB0 : 0 < B) (hB : B ≤ 60) (hsv : pv_sv B w) (s : ST) :
    ∃ s' Fi, fX8_walk s w = some (pu_I Fi.length, s') ∧ Fi.Nodup ∧ (∀ b ∈ Fi, b < B) ∧ (∃ F', Fi = F' ++ [0]) ∧ (∀ b ∈ Fi, ∀ c, c < B → pv_eg w b c → c ∈ Fi) ∧
      (∀ F1 x F2, Fi = F1 ++ x :: F2 → x ≠ 0 → ∃ p, pv_eg w p x ∧ p ∈ F2) ∧ (∀ b ∈ Fi, pv_rc B w b) ∧ (∀ j b, Fi[j]? = some b → s' 1 b = pu_I (Fi.length - 1 - j)) ∧ (∀ b, b < 60 → b ∉ Fi → s' 1 b < 0) ∧ (∀ r, r ≠ 1 → r ≠ 2 → r ≠ 3 → r ≠ 4 → s' r = s r) := by
  obtain ⟨f1, a1, a2⟩ := pv_fill (n := 60) (f := s 1) (v := -1) (by decide)
  obtain ⟨f2, b1, b2⟩ := pv_fill (n := 60) (f := (srw s 1 f1) 2) (v := -1) (by decide)
  have q1 : ∀ b, upw (upw (srw (srw s 1 f1) 2 f2) 3 0 0) 2 0 0 1 b = f1 b := fun b => by
    rw [pv_upw_n (by decide), pv_upw_n (by decide), pv_srw_n (by decide), pv_srw_s]
  have q2 : ∀ b, b ≠ 0 → upw (upw (srw (srw s 1 f1) 2 f2) 3 0 0) 2 0 0 2 b = f2 b := fun b hb => by
    rw [pv_upw, if_neg fun h => hb h.2, pv_upw_n (by decide), pv_srw_s]
  have q20 : upw (upw (srw (srw s 1 f1) 2 f2) 3 0 0) 2 0 0 2 0 = 0 := by rw [pv_upw, if_pos ⟨rfl, rfl⟩]
  have q3 : upw (upw (srw (srw s 1 f1) 2 f2) 3 0 0) 2 0 0 3 0 = 0 := by rw [pv_upw_n (by decide), pv_upw, if_pos ⟨rfl, rfl⟩]
  have hr : ∀ r, r ≠ 1 → r ≠ 2 → r ≠ 3 → r ≠ 4 → upw (upw (srw (srw s 1 f1) 2 f2) 3 0 0) 2 0 0 r = s r := fun r h1 h2 h3 _ => by
    rw [pv_upw_n h2, pv_upw_n h3, pv_srw_n h2, pv_srw_n h1]
  have hneg : ∀ b, b < 60 → b ≠ 0 → upw (upw (srw (srw s 1 f1) 2 f2) 3 0 0) 2 0 0 2 b < 0 := fun b hb h0 => by rw [q2 b h0, b2 b hb]; decide
  have hstart : pv_wkI B w (upw (upw (srw (srw s 1 f1) 2 f2) 3 0 0) 2 0 0) [0] [] := by
    refine ⟨by simp, fun b hb => ?_, fun b hb => (by cases hb), fun b hb h0 => ?_, fun b hb hs c hc _ => ?_, fun b hb hs c hc _ => ?_, fun P1 x y P2 hP => ?_, fun F1 x F2 hF => ?_, Or.inr ⟨[], rfl⟩, fun b hb => ?_, ⟨q3, trivial⟩, fun i b hi => (by cases hi)⟩
    · rw [List.mem_singleton.mp hb]
      exact ⟨hB0, Or.inl q20⟩
    · by_cases e : b = 0
      · exact Or.inl (by rw [e]; exact List.mem_singleton.mpr rfl)
      · exact absurd (hneg b (by omega) e) h0
    · exfalso
      by_cases e : b = 0
      · subst e
        rw [q20] at hs
        rcases hs with h | h | h <;> exact absurd h (by decide)
      · have := hneg b (by omega) e
        rcases hs with h | h | h <;> rw [h] at this <;> exact absurd this (by decide)
    · exfalso
      by_cases e : b = 0
      · subst e
        rw [q20] at hs
        rcases hs with h | h <;> exact absurd h (by decide)
      · have := hneg b (by omega) e
        rcases hs with h | h <;> rw [h] at this <;> exact absurd this (by decide)
    · cases P1 with
      | nil => have := (List.cons.inj hP).2; cases this
      | cons z P1 => have := (List.cons.inj hP).2; cases P1 <;> cases this
    · cases F1 <;> cases hF
    · rcases hb with hb | hb
      · rw [List.mem_singleton.mp hb]
        exact fun X h0 _ => h0
      · cases hb
  generalize hg9 : upw (upw (srw (srw s 1 f1) 2 f2) 3 0 0) 2 0 0 = s0 at *
  obtain ⟨s1, Fi, c1, c2, c3⟩ := pv_wk_loop hB hsv (3 * B) 0 NF s0 [0] [] hstart (by
    show 3 * (B - 1 - 0) + ((3 - nn (s0 2 0)) + 0) = 3 * B
    rw [q20]
    show 3 * (B - 1 - 0) + (3 - 0 + 0) = 3 * B
    omega) (by omega) (by have := pv_NF; omega)
  have c1 : fX8_walk_L37 w NF 0 1 0 s0 = some (pu_I Fi.length, s1) := c1
  obtain ⟨h1, h2, h3, h4, h5, h6, h7, h8, h9, h10, h11, h12⟩ := c2
  have hnd : Fi.Nodup := h1
  have hlen := pv_len B Fi hnd fun b hb => (h3 b hb).1
  obtain ⟨s2, d1, d2, d3, d4⟩ := pv_wk_num hB hnd (fun b hb => (h3 b hb).1) (by omega) Fi.length 0 NF s1 s1 (by omega) (by have := pv_NF; omega) h12 (fun r _ => rfl) (fun j b hj => by omega) (fun b _ => rfl)
  have d1 : fX8_walk_L182 (pu_I Fi.length, s1) NF 0 s1 = some s2 := d1
  refine ⟨s2, Fi, ?_, hnd, fun b hb => (h3 b hb).1, ?_, fun b hb c hc he => ?_, fun F1 x F2 hF hx => ?_, fun b hb => h10 b (Or.inr hb), d3, fun b hb hn => ?_, fun r r1 r2 r3 r4 => by rw [d2 r r1, c3 r r2 r3 r4, hr r r1 r2 r3 r4]⟩
  · unfold fX8_walk
    rw [a1, Option.bind_some, b1, Option.bind_some]
    simp only [lt9]
    have hz : nn (0 : Int32) = 0 := rfl
    rw [hz, hg9, c1, Option.bind_some, d1, Option.bind_some]
  · rcases h9 with ⟨_, h⟩ | ⟨P', h⟩
    · exact h
    · cases P' <;> cases h
  · have hb3 := (h3 b hb).2
    have hbB := (h3 b hb).1
    have hv : ¬ s1 2 c < 0 := by
      rcases he with he | he
      · exact h6 b hbB (Or.inr hb3) c hc he
      · exact h5 b hbB (Or.inr (Or.inr hb3)) c hc he
    rcases h4 c hc hv with h | h
    · cases h
    · exact h
  · obtain ⟨p, p1, p2⟩ := h8 F1 x F2 hF hx
    refine ⟨p, p1, ?_⟩
    rcases p2 with h | h
    · exact h
    · cases h
  · rw [d4 b hn, c3 1 (by decide) (by decide) (by decide), q1, a2 b hb]
    decide
end WB
