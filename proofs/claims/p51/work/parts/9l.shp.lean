/-! pure side, stores 42: what the sets of dominators and loops say; new numbers, whole -/
def pv_D (B : Nat) (l : SL) (b d : Nat) : Prop := b < B ∧ d < B ∧ pv_bt (l 16 b) d = true
section SH
variable {B : Nat} {w : ST} {l : SL} {F : pu_Flow}
theorem pv_shape (hB0 : 0 < B) (hB : B ≤ 60) (hsc : ∀ p c, p < B → c < B → (pu_sc F p c ↔ pv_eg w p c)) (hcl : ∀ p c, p < B → pu_sc F p c → c < B) (hpr : ∀ c, c < B → c ≠ 0 → ∃ p, p < c ∧ pv_eg w p c) (hd : pv_di B w l) (hst : ∀ d, d < B → pv_st9 B w l d)
    (hnr : ∀ b, b < B → (w 12 b = -1 ∧ ∀ e, e < b → pv_bt (l 16 b) e = false) ∨ ∃ d, d < b ∧ w 12 b = pu_I d ∧ pv_bt (l 16 b) d = true ∧ ∀ e, d < e → e < b → pv_bt (l 16 b) e = false) (hlp : ∀ h, h < B → pv_lpo B w l h (l 17 h)) :
    pu_grf F (fun b => b < B) (pv_D B l) ∧ pu_dom F B (pv_D B l) ∧ (∀ b c, b < B → c < B → (pv_bt (l 16 b) c = true ↔ pv_D B l b c)) ∧ (∀ h, h < B → l 17 h ≠ 0 → pu_lop F B (pv_D B l) h (fun c => pv_bt (l 17 h) c = true)) ∧
    (∀ c, c < B → c ≠ 0 → w 12 c = pu_I (nn (w 12 c))) ∧ pv_dmx B (pv_D B l) (fun c => nn (w 12 c)) := by
  have h0 : ∀ d, pv_D B l 0 d → d = 0 := fun d h => (hd.1 d).mp h.2.2
  have hstep : ∀ p c d, p < B → c < B → pv_eg w p c → pv_D B l c d → d ≠ c → pv_D B l p d := by
    intro p c d hp hc he h hdc
    by_cases hc0 : c = 0
    · subst hc0
      exact absurd (h0 d h) hdc
    · exact ⟨hp, h.2.1, ((hst d h.2.1 c hc hc0 h.2.2).resolve_left hdc).2 p hp he⟩
  have hle : ∀ b d, pv_D B l b d → d ≤ b := by
    intro b
    induction b using Nat.strongRecOn with
    | ind b ih =>
      intro d h
      by_cases hb0 : b = 0
      · subst hb0
        rw [h0 d h]
        exact Nat.le_refl _
      · by_cases hdb : d = b
        · omega
        · obtain ⟨p, p1, p2⟩ := hpr b h.1 hb0
          have := ih p p1 d (hstep p b d (by have := h.1; omega) h.1 p2 h hdb)
          omega
  have hrf : ∀ b, b < B → pv_D B l b b := fun b hb => ⟨hb, hb, pv_di_self hd hb⟩
  have hgr : ∀ X : Nat → Nat → Prop, (∀ d, X 0 d → d = 0) → (∀ p c d, p < B → c < B → c ≠ 0 → pv_eg w p c → X c d → d = c ∨ X p d) → ∀ c d, c < B → d < B → X c d → pv_D B l c d := fun X x0 xs c d hc hdB hX => ⟨hc, hdB, hd.2.2.1 X x0 xs c d hc hdB hX⟩
  have htr : ∀ b d e, b < B → pv_D B l b d → pv_D B l d e → pv_D B l b e := by
    intro b d e hb h1 h2
    refine hgr (fun c e => pv_D B l c e ∨ ∃ d, pv_D B l c d ∧ pv_D B l d e) (fun e h => ?_) (fun p c e hp hc hc0 he h => ?_) b e hb h2.2.1 (Or.inr ⟨d, h1, h2⟩)
    · rcases h with h | ⟨d, q1, q2⟩
      · exact h0 e h
      · rw [h0 d q1] at q2
        exact h0 e q2
    · have hone : pv_D B l c e → e = c ∨ pv_D B l p e := fun h => by
        by_cases e9 : e = c
        · exact Or.inl e9
        · exact Or.inr (hstep p c e hp hc he h e9)
      rcases h with h | ⟨d, q1, q2⟩
      · exact (hone h).imp id Or.inl
      · by_cases e9 : d = c
        · rw [e9] at q2
          exact (hone q2).imp id Or.inl
        · exact Or.inr (Or.inr ⟨d, hstep p c d hp hc he q1 e9, q2⟩)
  have hG : pu_grf F (fun b => b < B) (pv_D B l) := ⟨fun b c hb h => hcl b c hb h, fun b d hb h => ⟨hle b d h, h.2.1⟩, hrf, htr, fun b c d hb h h2 hdc => hstep b c d hb h2.1 ((hsc b c hb h2.1).mp h) h2 hdc⟩
  have hdm : pu_dom F B (pv_D B l) := by
    refine ⟨fun c hc hc0 => ?_, fun X x0 xs c d hc hdB hX => hgr X x0 (fun p c d hp hc hc0 he h => xs p c d hp hc hc0 ((hsc p c hp hc).mpr he) h) c d hc hdB hX⟩
    obtain ⟨p, p1, p2⟩ := hpr c hc hc0
    exact ⟨p, p1, (hsc p c (by omega) hc).mpr p2⟩
  have hnear : ∀ c, c < B → c ≠ 0 → ∃ d, d < c ∧ w 12 c = pu_I d ∧ pv_bt (l 16 c) d = true ∧ ∀ e, d < e → e < c → pv_bt (l 16 c) e = false := by
    intro c hc hc0
    rcases hnr c hc with ⟨_, h⟩ | h
    · exfalso
      have h9 := (pu_dom_0 hdm hB0 hc).2.2
      rw [h 0 (by omega)] at h9
      cases h9
    · exact h
  refine ⟨hG, hdm, fun b c hb hc => ⟨fun h => ⟨hb, hc, h⟩, fun h => h.2.2⟩, fun h hh hn => ?_, fun c hc hc0 => ?_, fun c hc hc0 => ?_⟩
  · obtain ⟨q1, q2, q3, q4⟩ := hlp h hh hn
    exact ⟨q1, fun c hc => ⟨(q2 c hc).1, (q2 c hc).1, hh, (q2 c hc).2⟩, fun c p hc hch hp he => q3 c p hc hch hp ((hsc p c hp (q2 c hc).1).mp he), fun p hp he hD => q4 p hp ((hsc p h hp hh).mp he) hD.2.2⟩
  · obtain ⟨d, d1, d2, _⟩ := hnear c hc hc0
    rw [d2, pu_nn (by omega)]
  · obtain ⟨d, d1, d2, d3, d4⟩ := hnear c hc hc0
    have hn : nn (w 12 c) = d := by rw [d2, pu_nn (by omega)]
    have hDd : pv_D B l c d := ⟨hc, by omega, d3⟩
    show nn (w 12 c) < c ∧ pv_D B l c (nn (w 12 c)) ∧ ∀ d, pv_D B l c d → d ≠ c → pv_D B l (nn (w 12 c)) d
    rw [hn]
    refine ⟨d1, hDd, fun e he hec => ?_⟩
    rcases pu_chain hG hdm c e d hc he hDd with h | h
    · have h1 := hle e d h
      have h2 := hle c e he
      have h3 : e = d := by
        by_cases e9 : e = d
        · exact e9
        · have h4 := d4 e (by omega) (by omega)
          rw [he.2.2] at h4
          cases h4
      rw [h3]
      exact hrf d (by omega)
    · exact h
theorem pv_D_e {l' : SL} (h : l' 16 = l 16) : pv_D B l' = pv_D B l := by
  unfold pv_D
  rw [h]
end SH
section RZ
variable {B M : Nat} {n : Nat → Nat} {w s : ST} {ph : Nat → List Nat}
/-- new numbers, whole: what the rows hold then -/
theorem pv_renumber (hB0 : 0 < B) (hB : B ≤ 60) (hw0 : w 0 0 = pu_I B) (hsv : pv_sv B w) (hM20 : M ≤ n 20) (hM21 : M * 60 ≤ n 21) (hM : M < 50000) (hph : pv_phc B w ph) (hdp : pv_dis B M ph) (l : SL) :
    ∃ (Fi : List Nat) (rn od : Nat → Nat) (s' w' : ST) (l' : SL), fX8_renumber s n w l = some (s', w', l') ∧
      pv_rni B Fi rn od ∧ 0 ∈ Fi ∧ rn 0 = 0 ∧ (∀ b ∈ Fi, ∀ c, c < B → pv_eg w b c → c ∈ Fi) ∧ (∀ b ∈ Fi, pv_rc B w b) ∧ pv_rnr Fi rn s' ∧ (∀ r, r ≠ 1 → r ≠ 2 → r ≠ 3 → r ≠ 4 → r ≠ 5 → s' r = s r) ∧
      w' 0 0 = pu_I Fi.length ∧ (∀ i, i ≠ 0 → w' 0 i = w 0 i) ∧ (∀ r, 4 ≤ r → r ≤ 9 → ∀ b ∈ Fi, w' r (rn b) = w r b) ∧ (∀ b ∈ Fi, w' 10 (rn b) = pv_rs rn (w 10 b) ∧ w' 11 (rn b) = pv_rs rn (w 11 b)) ∧ (∀ b ∈ Fi, ∀ a ∈ ph b, ∀ p ∈ Fi, w' 21 (a * 60 + rn p) = w 21 (a * 60 + p)) ∧ (∀ r, r ≠ 0 → (r < 4 ∨ 15 < r) → r ≠ 21 → w' r = w r) ∧ (∀ r, r ≠ 16 → r ≠ 17 → l' r = l r) ∧
      (∃ wb, pv_wys Fi.length w' wb) ∧ pv_di Fi.length w' l' ∧ (∀ d, d < Fi.length → pv_st9 Fi.length w' l' d) ∧
      (∀ b, b < Fi.length → (w' 12 b = -1 ∧ ∀ e, e < b → pv_bt (l' 16 b) e = false) ∨ ∃ d, d < b ∧ w' 12 b = pu_I d ∧ pv_bt (l' 16 b) d = true ∧ ∀ e, d < e → e < b → pv_bt (l' 16 b) e = false) ∧ (∀ h, h < Fi.length → pv_lpo Fi.length w' l' h (l' 17 h)) ∧
      (∀ p c, p < Fi.length → pv_eg w' p c → c < 60 → c < Fi.length ∧ pv_eg w (od p) (od c)) ∧ (∀ c, c < Fi.length → c ≠ 0 → ∃ p, p < c ∧ pv_eg w' p c) := by
  obtain ⟨Fi, rn, od, s', w1, e1, hR, h0, hrn0, hcl, hpar, hrc, hs', hsr, a1, a2, a3, a4, a5, a6⟩ := pv_renum1 (s := s) hB0 hB hw0 hsv hM20 hM21 hM hph hdp l
  have hlen := hR.2.2
  have hpos : 0 < Fi.length := List.length_pos_of_mem h0
  obtain ⟨w2, l2, b1, b2, b3, b4, b5, b6, b7, b8⟩ := pv_measure hpos (by omega) a1 l
  have hrow : ∀ r, r ≠ 12 → r ≠ 13 → r ≠ 14 → r ≠ 15 → w2 r = w1 r := b2
  have heg : ∀ p c, p < Fi.length → pv_eg w2 p c → c < 60 → c < Fi.length ∧ pv_eg w (od p) (od c) := by
    intro p c hp he hc60
    obtain ⟨p1, p2⟩ := hR.2.1 p hp
    have h4 := a4 (od p) p1
    rw [p2] at h4
    have hB9 := (hR.1 (od p) p1).1
    have hsv9 := hsv (od p) hB9
    have hone : ∀ x : Int32, (x < 0 ∨ ∃ c, c < B ∧ x = pu_I c) → pv_rs rn x = pu_I c → (∀ d, x = pu_I d → pv_eg w (od p) d) → c < Fi.length ∧ pv_eg w (od p) (od c) := by
      intro x hx hr hd
      unfold pv_rs at hr
      rcases hx with hx | ⟨d, d1, rfl⟩
      · rw [if_pos hx] at hr
        exact absurd pu_m1 (by rw [hr]; exact pu_ge (by omega))
      · rw [if_neg (pu_ge (by omega)), pu_nn (by omega)] at hr
        have hdF := hcl (od p) p1 d d1 (hd d rfl)
        have h9 := hR.1 d hdF
        have hcd := pu_inj (by omega) (by omega) hr
        rw [← hcd, h9.2.2]
        exact ⟨h9.2.1, hd d rfl⟩
    rcases he with he | he
    · rw [hrow 10 (by decide) (by decide) (by decide) (by decide), h4.1] at he
      exact hone _ hsv9.1 he fun d hd => Or.inl hd
    · rw [hrow 11 (by decide) (by decide) (by decide) (by decide), h4.2] at he
      exact hone _ hsv9.2 he fun d hd => Or.inr hd
  refine ⟨Fi, rn, od, s', w2, l2, ?_, hR, h0, hrn0, hcl, hrc, hs', hsr, ?_, fun i hi => ?_, fun r r4 r9 b hb => ?_, fun b hb => ?_, fun b hb a ha p hp => ?_, fun r r0 r1 r21 => ?_, b3, ⟨_, b4⟩, b5, b6, b7, b8, heg, fun c hc hc0 => ?_⟩
  · rw [e1, b1, Option.bind_some]
  · rw [hrow 0 (by decide) (by decide) (by decide) (by decide)]; exact a1
  · rw [hrow 0 (by decide) (by decide) (by decide) (by decide)]; exact a2 i hi
  · rw [hrow r (by omega) (by omega) (by omega) (by omega)]; exact a3 r r4 r9 b hb
  · rw [hrow 10 (by decide) (by decide) (by decide) (by decide), hrow 11 (by decide) (by decide) (by decide) (by decide)]; exact a4 b hb
  · rw [hrow 21 (by decide) (by decide) (by decide) (by decide)]; exact a5 b hb a ha p hp
  · rw [hrow r (by omega) (by omega) (by omega) (by omega)]; exact a6 r r0 (by omega) r21
  · obtain ⟨c1, c2⟩ := hR.2.1 c hc
    have hc9 : od c ≠ 0 := fun e => hc0 (by rw [← c2, e, hrn0])
    obtain ⟨p, p1, p2, p3⟩ := hpar (od c) c1 hc9
    refine ⟨rn p, by rw [← c2]; exact p3, ?_⟩
    have h4 := a4 p p1
    have hcB := (hR.1 _ c1).1
    rcases p2 with h | h
    · refine Or.inl ?_
      rw [hrow 10 (by decide) (by decide) (by decide) (by decide), h4.1, h]
      unfold pv_rs
      rw [if_neg (pu_ge (by omega)), pu_nn (by omega), c2]
    · refine Or.inr ?_
      rw [hrow 11 (by decide) (by decide) (by decide) (by decide), h4.2, h]
      unfold pv_rs
      rw [if_neg (pu_ge (by omega)), pu_nn (by omega), c2]
end RZ
