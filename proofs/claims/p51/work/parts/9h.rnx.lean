/-! pure side, stores 38: all rows by the new numbers -/
section RX
variable {B M : Nat} {Fi : List Nat} {rn od : Nat → Nat} {n : Nat → Nat} {w s : ST} {ph : Nat → List Nat}
theorem pv_rnL14 (hB : B ≤ 60) (hw0 : w 0 0 = pu_I B) (hR : pv_rni B Fi rn od) (hs : pv_rnr Fi rn s) (hM20 : M ≤ n 20) (hM21 : M * 60 ≤ n 21) (hM : M < 50000) (hph : pv_phc B w ph) (hdp : pv_dis B M ph)
    (hsv : ∀ b ∈ Fi, (w 10 b < 0 ∨ ∃ c, c ∈ Fi ∧ w 10 b = pu_I c) ∧ (w 11 b < 0 ∨ ∃ c, c ∈ Fi ∧ w 11 b = pu_I c)) :
    ∃ s' w', fX8_renumber_L14 n w NF 0 s w = some (s', w') ∧ (∀ r, r ≠ 5 → s' r = s r) ∧ (∀ r, r ≠ 10 → r ≠ 11 → r ≠ 21 → w' r = w r) ∧ (∀ b ∈ Fi, w' 10 b = pv_rs rn (w 10 b) ∧ w' 11 b = pv_rs rn (w 11 b)) ∧ (∀ b ∈ Fi, ∀ a ∈ ph b, ∀ p ∈ Fi, w' 21 (a * 60 + rn p) = w 21 (a * 60 + p)) := by
  have hlen9 := hR.2.2
  obtain ⟨t, e1, h1⟩ := pv_for (G := fun k x (t : ST × ST) => fX8_renumber_L14 n w k x t.1 t.2) (hi := B)
    (Inv := fun k (t : ST × ST) => (∀ r, r ≠ 5 → t.1 r = s r) ∧ (∀ r, r ≠ 10 → r ≠ 11 → r ≠ 21 → t.2 r = w r) ∧ (∀ b, b < k → b ∈ Fi → t.2 10 b = pv_rs rn (w 10 b) ∧ t.2 11 b = pv_rs rn (w 11 b)) ∧ (∀ b, ¬ (b < k ∧ b ∈ Fi) → t.2 10 b = w 10 b ∧ t.2 11 b = w 11 b) ∧
      (∀ b, b < k → b ∈ Fi → ∀ a ∈ ph b, ∀ p ∈ Fi, t.2 21 (a * 60 + rn p) = w 21 (a * 60 + p)) ∧ (∀ y, (∀ b, b < k → b ∈ Fi → ∀ a ∈ ph b, ¬ (a * 60 ≤ y ∧ y < a * 60 + 60)) → t.2 21 y = w 21 y))
    (Q := fun t : ST × ST => (∀ r, r ≠ 5 → t.1 r = s r) ∧ (∀ r, r ≠ 10 → r ≠ 11 → r ≠ 21 → t.2 r = w r) ∧ (∀ b ∈ Fi, t.2 10 b = pv_rs rn (w 10 b) ∧ t.2 11 b = pv_rs rn (w 11 b)) ∧ (∀ b ∈ Fi, ∀ a ∈ ph b, ∀ p ∈ Fi, t.2 21 (a * 60 + rn p) = w 21 (a * 60 + p)))
    (fun m k t hk hI => by
      obtain ⟨i1, i2, i3, i4, i5, i6⟩ := hI
      have h60 : ixb (pu_I k) 60 = true := (pu_ix (by omega)).mpr (by omega)
      have hform : fX8_renumber_L14 n w (m + 1) (pu_I k) t.1 t.2 = (if t.1 1 k < 0 then fX8_renumber_L14 n w m (pu_I (k + 1)) t.1 t.2 else ((fX8_renameWays t.1 n t.2 (pu_I k)).bind fun (o_6 : ST × ST) => fX8_renumber_L14 n w m (pu_I (k + 1)) o_6.1 o_6.2)) := by
        show (if (w 0 0) ≤ pu_I k then some (t.1, t.2) else (if ixb (pu_I k) 60 = true then (if (t.1 1 (nn (pu_I k))) < 0 then (fX8_renumber_J37 (fX8_renumber_L14 n w m) (pu_I k) t.1 t.2) else ((fX8_renameWays t.1 n t.2 (pu_I k)).bind fun (o_6 : ST × ST) => (fX8_renumber_J37 (fX8_renumber_L14 n w m) (pu_I k) (o_6.1) (o_6.2)))) else none)) = _
        unfold fX8_renumber_J37
        rw [hw0, if_neg (by rw [pu_le (by omega) (by omega)]; omega), if_pos h60, pu_nn (by omega), pu_su]
      rw [hform]
      rcases pv_rnr_e (i1 1 (by decide)) hs k (by omega) with ⟨q1, q2⟩ | ⟨q1, q2⟩
      · rw [if_pos q2]
        refine ⟨t, rfl, i1, i2, fun b hb hbF => ?_, fun b hb => i4 b fun c => hb ⟨by omega, c.2⟩, fun b hb hbF => ?_, fun y hy => i6 y fun b hb => hy b (by omega)⟩
        · by_cases e : b = k
          · exact absurd (e ▸ hbF) q1
          · exact i3 b (by omega) hbF
        · by_cases e : b = k
          · exact absurd (e ▸ hbF) q1
          · exact i5 b (by omega) hbF
      · rw [q2, if_neg (pu_ge (by have := (hR.1 k q1).2.1; omega))]
        have hk4 := i4 k fun c => by omega
        obtain ⟨s', w', f1, f2, f3, f4, f5, f6, f7⟩ := pv_renameWays (w := t.2) hB hR (pv_rnr_e (i1 1 (by decide)) hs) hM20 hM21 hM hk (l := ph k) (hdp.1 k hk) (hdp.2.1 k hk) (by rw [i2 20 (by decide) (by decide) (by decide), i2 6 (by decide) (by decide) (by decide)]; exact hph.1 k hk) (by have := pv_len M (ph k) (hdp.2.1 k hk) (hdp.1 k hk); have := pv_NF; omega) (by rw [hk4.1]; exact (hsv k q1).1) (by rw [hk4.2]; exact (hsv k q1).2)
        rw [f1, Option.bind_some]
        refine ⟨(s', w'), rfl, fun r hr => (f2 r hr).trans (i1 r hr), fun r r1 r2 r3 => (f3 r r1 r2 r3).trans (i2 r r1 r2 r3), fun b hb hbF => ?_, fun b hb => ?_, fun b hb hbF a ha p hp => ?_, fun y hy => ?_⟩
        · show w' 10 b = _ ∧ w' 11 b = _
          rw [f4, f5]
          by_cases e : b = k
          · rw [if_pos e, if_pos e, hk4.1, hk4.2, e]
            exact ⟨rfl, rfl⟩
          · rw [if_neg e, if_neg e]
            exact i3 b (by omega) hbF
        · show w' 10 b = _ ∧ w' 11 b = _
          rw [f4, f5]
          by_cases e : b = k
          · exact absurd ⟨by omega, by rw [e]; exact q1⟩ hb
          · rw [if_neg e, if_neg e]
            exact i4 b fun c => hb ⟨by omega, c.2⟩
        · show w' 21 (a * 60 + rn p) = _
          have hp9 := (hR.1 p hp).2.1
          have hp8 := (hR.1 p hp).1
          by_cases e : b = k
          · subst e
            rw [f6 a ha p hp]
            refine i6 _ fun b' hb' hb'F a' ha' c => ?_
            have : a' = a := by omega
            subst this
            have := hdp.2.2 b' b a' (by omega) hk ha' ha
            omega
          · have hbB : b < B := (hR.1 b hbF).1
            rw [f7]
            · exact i5 b (by omega) hbF a ha p hp
            · intro a' ha' c
              have : a' = a := by omega
              subst this
              exact e (hdp.2.2 b k a' hbB hk ha ha')
        · show w' 21 y = _
          rw [f7 y fun a ha => hy k (by omega) q1 a ha]
          exact i6 y fun b hb => hy b (by omega))
    (fun m t hI => ⟨t, by
      show (if (w 0 0) ≤ pu_I B then some (t.1, t.2) else _) = _
      rw [hw0, if_pos (Int32.le_refl _)], hI.1, hI.2.1, fun b hb => hI.2.2.1 b (hR.1 b hb).1 hb, fun b hb => hI.2.2.2.2.1 b (hR.1 b hb).1 hb⟩)
    B 0 NF (s, w) (by omega) (by have := pv_NF; omega) ⟨fun r _ => rfl, fun r _ _ _ => rfl, fun b hb => by omega, fun b _ => ⟨rfl, rfl⟩, fun b hb => by omega, fun y _ => rfl⟩
  exact ⟨t.1, t.2, e1, h1⟩
theorem pv_renum1 (hB0 : 0 < B) (hB : B ≤ 60) (hw0 : w 0 0 = pu_I B) (hsv : pv_sv B w) (hM20 : M ≤ n 20) (hM21 : M * 60 ≤ n 21) (hM : M < 50000) (hph : pv_phc B w ph) (hdp : pv_dis B M ph) (l : SL) :
    ∃ (Fi : List Nat) (rn od : Nat → Nat) (s' w' : ST), fX8_renumber s n w l = (fX8_measure w' l).bind (fun (o_16 : ST × SL) => some (s', o_16.1, o_16.2)) ∧
      pv_rni B Fi rn od ∧ 0 ∈ Fi ∧ rn 0 = 0 ∧ (∀ b ∈ Fi, ∀ c, c < B → pv_eg w b c → c ∈ Fi) ∧ (∀ b ∈ Fi, b ≠ 0 → ∃ p, p ∈ Fi ∧ pv_eg w p b ∧ rn p < rn b) ∧ (∀ b ∈ Fi, pv_rc B w b) ∧ pv_rnr Fi rn s' ∧ (∀ r, r ≠ 1 → r ≠ 2 → r ≠ 3 → r ≠ 4 → r ≠ 5 → s' r = s r) ∧
      w' 0 0 = pu_I Fi.length ∧ (∀ i, i ≠ 0 → w' 0 i = w 0 i) ∧ (∀ r, 4 ≤ r → r ≤ 9 → ∀ b ∈ Fi, w' r (rn b) = w r b) ∧ (∀ b ∈ Fi, w' 10 (rn b) = pv_rs rn (w 10 b) ∧ w' 11 (rn b) = pv_rs rn (w 11 b)) ∧ (∀ b ∈ Fi, ∀ a ∈ ph b, ∀ p ∈ Fi, w' 21 (a * 60 + rn p) = w 21 (a * 60 + p)) ∧ (∀ r, r ≠ 0 → (r < 4 ∨ 11 < r) → r ≠ 21 → w' r = w r) := by
  obtain ⟨s1, Fi, a1, hnd, hlt, ⟨F', hF'⟩, hcl, hpar, hrc, hnum, hneg, hsr⟩ := pv_walk hB0 hB hsv s
  have hlen : Fi.length ≤ B := pv_len B Fi hnd hlt
  have h0 : 0 ∈ Fi := by rw [hF']; exact List.mem_append_right _ (List.mem_singleton.mpr rfl)
  have hpos : 0 < Fi.length := List.length_pos_of_mem h0
  -- the numbers as functions
  have hget : ∀ b, b ∈ Fi → ∃ j, j < Fi.length ∧ Fi[j]? = some b := by
    intro b hb
    obtain ⟨j, hj, e⟩ := List.mem_iff_getElem.mp hb
    exact ⟨j, hj, by rw [List.getElem?_eq_getElem hj, e]⟩
  have hidx : ∀ b, b ∈ Fi → Fi.idxOf b < Fi.length ∧ Fi[Fi.idxOf b]? = some b := by
    intro b hb
    have h1 : Fi.idxOf b < Fi.length := List.idxOf_lt_length_of_mem hb
    exact ⟨h1, by rw [List.getElem?_eq_getElem h1, List.getElem_idxOf h1]⟩
  have huniq : ∀ (i j b : Nat), Fi[i]? = some b → Fi[j]? = some b → i = j := by
    intro i j b h1 h2
    obtain ⟨i1, i2⟩ := List.getElem?_eq_some_iff.mp h1
    obtain ⟨j1, j2⟩ := List.getElem?_eq_some_iff.mp h2
    exact (List.getElem_inj hnd).mp (i2.trans j2.symm)
  have hR : pv_rni B Fi (fun b => Fi.length - 1 - Fi.idxOf b) (fun i => Fi.getD (Fi.length - 1 - i) 0) := by
    refine ⟨fun p hp => ?_, fun i hi => ?_, hlen⟩
    · obtain ⟨h1, h2⟩ := hidx p hp
      refine ⟨hlt p hp, by show Fi.length - 1 - Fi.idxOf p < _; omega, ?_⟩
      show Fi.getD (Fi.length - 1 - (Fi.length - 1 - Fi.idxOf p)) 0 = p
      rw [show Fi.length - 1 - (Fi.length - 1 - Fi.idxOf p) = Fi.idxOf p by omega, List.getD_eq_getElem?_getD, h2]
      rfl
    · have h1 : Fi.length - 1 - i < Fi.length := by omega
      have h2 : Fi[Fi.length - 1 - i]? = some Fi[Fi.length - 1 - i] := List.getElem?_eq_getElem h1
      have h3 : Fi.getD (Fi.length - 1 - i) 0 = Fi[Fi.length - 1 - i] := by rw [List.getD_eq_getElem?_getD, h2]; rfl
      have h4 : Fi[Fi.length - 1 - i] ∈ Fi := List.getElem_mem h1
      show Fi.getD (Fi.length - 1 - i) 0 ∈ Fi ∧ Fi.length - 1 - Fi.idxOf (Fi.getD (Fi.length - 1 - i) 0) = i
      rw [h3]
      refine ⟨h4, ?_⟩
      have := huniq _ _ _ (hidx _ h4).2 h2
      omega
  have hrn : ∀ (j b : Nat), Fi[j]? = some b → Fi.length - 1 - Fi.idxOf b = Fi.length - 1 - j := by
    intro j b hj
    have := huniq _ _ _ (hidx b (List.mem_of_getElem? hj)).2 hj
    omega
  have hrn0 : Fi.length - 1 - Fi.idxOf 0 = 0 := by
    have : Fi[F'.length]? = some 0 := by
      rw [hF', List.getElem?_append_right (Nat.le_refl _)]
      simp
    have h9 := hrn _ _ this
    have : Fi.length = F'.length + 1 := by rw [hF', List.length_append]; rfl
    omega
  have hs1 : pv_rnr Fi (fun b => Fi.length - 1 - Fi.idxOf b) s1 := by
    intro p hp
    by_cases h : p ∈ Fi
    · obtain ⟨j, j1, j2⟩ := hget p h
      refine Or.inr ⟨h, ?_⟩
      rw [hnum j p j2]
      show pu_I _ = pu_I (Fi.length - 1 - Fi.idxOf p)
      rw [hrn j p j2]
    · exact Or.inl ⟨h, hneg p hp h⟩
  have hpar2 : ∀ b ∈ Fi, b ≠ 0 → ∃ p, p ∈ Fi ∧ pv_eg w p b ∧ Fi.length - 1 - Fi.idxOf p < Fi.length - 1 - Fi.idxOf b := by
    intro b hb hb0
    obtain ⟨F1, F2, hF⟩ := List.append_of_mem hb
    obtain ⟨p, p1, p2⟩ := hpar F1 b F2 hF hb0
    have hpF : p ∈ Fi := by rw [hF]; exact List.mem_append_right _ (List.mem_cons_of_mem _ p2)
    refine ⟨p, hpF, p1, ?_⟩
    obtain ⟨k, hk, e⟩ := List.mem_iff_getElem.mp p2
    have hb9 : Fi[F1.length]? = some b := by rw [hF, List.getElem?_append_right (Nat.le_refl _)]; simp
    have hp9 : Fi[F1.length + 1 + k]? = some p := by
      rw [hF, List.getElem?_append_right (by omega), show F1.length + 1 + k - F1.length = k + 1 by omega, List.getElem?_cons_succ, List.getElem?_eq_getElem hk, e]
    have hl : F1.length + 1 + k < Fi.length := (List.getElem?_eq_some_iff.mp hp9).1
    rw [hrn _ _ hb9, hrn _ _ hp9]
    omega
  have hsvF : ∀ b ∈ Fi, (w 10 b < 0 ∨ ∃ c, c ∈ Fi ∧ w 10 b = pu_I c) ∧ (w 11 b < 0 ∨ ∃ c, c ∈ Fi ∧ w 11 b = pu_I c) := by
    intro b hb
    have h9 := hsv b (hlt b hb)
    refine ⟨h9.1.imp id ?_, h9.2.imp id ?_⟩
    · rintro ⟨c, c1, c2⟩
      exact ⟨c, hcl b hb c c1 (Or.inl c2), c2⟩
    · rintro ⟨c, c1, c2⟩
      exact ⟨c, hcl b hb c c1 (Or.inr c2), c2⟩
  generalize hrng : (fun b => Fi.length - 1 - Fi.idxOf b) = rn at *
  have hrn0 : rn 0 = 0 := by rw [← hrng]; exact hrn0
  have hpar3 : ∀ b ∈ Fi, b ≠ 0 → ∃ p, p ∈ Fi ∧ pv_eg w p b ∧ rn p < rn b := by
    rw [← hrng]
    exact hpar2
  obtain ⟨s2, w1, b1, b2, b3, b4, b5⟩ := pv_rnL14 hB hw0 hR hs1 hM20 hM21 hM hph hdp hsvF
  have t2 := pv_rnr_e (b2 1 (by decide)) hs1
  obtain ⟨s4, f4, m4, u4, v4, x4⟩ := pv_move hB hR t2 (w1 4)
  have t4 := pv_rnr_e (u4 1 (by decide)) t2
  obtain ⟨s5, f5, m5, u5, v5, x5⟩ := pv_move hB hR t4 ((srw w1 4 f4) 5)
  have t5 := pv_rnr_e (u5 1 (by decide)) t4
  obtain ⟨s6, f6, m6, u6, v6, x6⟩ := pv_move hB hR t5 ((srw (srw w1 4 f4) 5 f5) 6)
  have t6 := pv_rnr_e (u6 1 (by decide)) t5
  obtain ⟨s7, f7, m7, u7, v7, x7⟩ := pv_move hB hR t6 ((srw (srw (srw w1 4 f4) 5 f5) 6 f6) 7)
  have t7 := pv_rnr_e (u7 1 (by decide)) t6
  obtain ⟨s8, f8, m8, u8, v8, x8⟩ := pv_move hB hR t7 ((srw (srw (srw (srw w1 4 f4) 5 f5) 6 f6) 7 f7) 8)
  have t8 := pv_rnr_e (u8 1 (by decide)) t7
  obtain ⟨s9, f9, m9, u9, v9, x9⟩ := pv_move hB hR t8 ((srw (srw (srw (srw (srw w1 4 f4) 5 f5) 6 f6) 7 f7) 8 f8) 9)
  have t9 := pv_rnr_e (u9 1 (by decide)) t8
  obtain ⟨s10, f10, m10, u10, v10, x10⟩ := pv_move hB hR t9 ((srw (srw (srw (srw (srw (srw w1 4 f4) 5 f5) 6 f6) 7 f7) 8 f8) 9 f9) 10)
  have t10 := pv_rnr_e (u10 1 (by decide)) t9
  obtain ⟨s11, f11, m11, u11, v11, x11⟩ := pv_move hB hR t10 ((srw (srw (srw (srw (srw (srw (srw w1 4 f4) 5 f5) 6 f6) 7 f7) 8 f8) 9 f9) 10 f10) 11)
  have t11 := pv_rnr_e (u11 1 (by decide)) t10
  rw [pv_srw_n (by decide)] at v5
  rw [pv_srw_n (by decide), pv_srw_n (by decide)] at v6
  rw [pv_srw_n (by decide), pv_srw_n (by decide), pv_srw_n (by decide)] at v7
  rw [pv_srw_n (by decide), pv_srw_n (by decide), pv_srw_n (by decide), pv_srw_n (by decide)] at v8
  rw [pv_srw_n (by decide), pv_srw_n (by decide), pv_srw_n (by decide), pv_srw_n (by decide), pv_srw_n (by decide)] at v9
  rw [pv_srw_n (by decide), pv_srw_n (by decide), pv_srw_n (by decide), pv_srw_n (by decide), pv_srw_n (by decide), pv_srw_n (by decide)] at v10
  rw [pv_srw_n (by decide), pv_srw_n (by decide), pv_srw_n (by decide), pv_srw_n (by decide), pv_srw_n (by decide), pv_srw_n (by decide), pv_srw_n (by decide)] at v11
  refine ⟨Fi, rn, _, s11, upw (srw (srw (srw (srw (srw (srw (srw (srw w1 4 f4) 5 f5) 6 f6) 7 f7) 8 f8) 9 f9) 10 f10) 11 f11) 0 0 (pu_I Fi.length), ?_, hR, h0, hrn0, hcl, hpar3, hrc, t11, fun r r1 r2 r3 r4 r5 => ?_, ?_, fun i hi => ?_, fun r r4 r9 b hb => ?_, fun b hb => ?_, fun b hb a ha p hp => ?_, fun r r0 r1 r21 => ?_⟩
  · unfold fX8_renumber
    rw [a1, Option.bind_some, b1, Option.bind_some, hw0]
    simp only []
    rw [m4, Option.bind_some]
    simp only []
    rw [m5, Option.bind_some]
    simp only []
    rw [m6, Option.bind_some]
    simp only []
    rw [m7, Option.bind_some]
    simp only []
    rw [m8, Option.bind_some]
    simp only []
    rw [m9, Option.bind_some]
    simp only []
    rw [m10, Option.bind_some]
    simp only []
    rw [m11, Option.bind_some]
    simp only [lt9]
  · rw [u11 r r5, u10 r r5, u9 r r5, u8 r r5, u7 r r5, u6 r r5, u5 r r5, u4 r r5, b2 r r5, hsr r r1 r2 r3 r4]
  · rw [pv_upw, if_pos ⟨rfl, rfl⟩]
  · rw [pv_upw, if_neg fun c => hi c.2, pv_srw_n (by decide), pv_srw_n (by decide), pv_srw_n (by decide), pv_srw_n (by decide), pv_srw_n (by decide), pv_srw_n (by decide), pv_srw_n (by decide), pv_srw_n (by decide), b3 0 (by decide) (by decide) (by decide)]
  · rw [pv_upw_n (by omega), pv_srw_n (by omega), pv_srw_n (by omega)]
    by_cases e9 : r = 9
    · subst e9; rw [pv_srw_s, v9 b hb, b3 9 (by decide) (by decide) (by decide)]
    rw [pv_srw_n (by omega)]
    by_cases e8 : r = 8
    · subst e8; rw [pv_srw_s, v8 b hb, b3 8 (by decide) (by decide) (by decide)]
    rw [pv_srw_n (by omega)]
    by_cases e7 : r = 7
    · subst e7; rw [pv_srw_s, v7 b hb, b3 7 (by decide) (by decide) (by decide)]
    rw [pv_srw_n (by omega)]
    by_cases e6 : r = 6
    · subst e6; rw [pv_srw_s, v6 b hb, b3 6 (by decide) (by decide) (by decide)]
    rw [pv_srw_n (by omega)]
    by_cases e5 : r = 5
    · subst e5; rw [pv_srw_s, v5 b hb, b3 5 (by decide) (by decide) (by decide)]
    rw [pv_srw_n (by omega)]
    have e4 : r = 4 := by omega
    subst e4
    rw [pv_srw_s, v4 b hb, b3 4 (by decide) (by decide) (by decide)]
  · have h9 := b4 b hb
    constructor
    · rw [pv_upw_n (by decide), pv_srw_n (by decide), pv_srw_s, v10 b hb, h9.1]
    · rw [pv_upw_n (by decide), pv_srw_s, v11 b hb, h9.2]
  · rw [pv_upw_n (by decide), pv_srw_n (by decide), pv_srw_n (by decide), pv_srw_n (by decide), pv_srw_n (by decide), pv_srw_n (by decide), pv_srw_n (by decide), pv_srw_n (by decide), pv_srw_n (by decide)]
    exact b5 b hb a ha p hp
  · rw [pv_upw_n r0, pv_srw_n (by omega), pv_srw_n (by omega), pv_srw_n (by omega), pv_srw_n (by omega), pv_srw_n (by omega), pv_srw_n (by omega), pv_srw_n (by omega), pv_srw_n (by omega)]
    exact b3 r (by omega) (by omega) r21
end RX
