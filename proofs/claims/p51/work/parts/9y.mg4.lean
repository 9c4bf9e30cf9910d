/-! pure side, stores 55: merge: what holds all along -/
/-- merge, under way: x the blocks that are left, la whose end a block has now -/
def pv_Mv (B N M : Nat) (D : Nat → Nat → Prop) (w0 w20 : ST) (ch0 ph0 : Nat → List Nat) (F0 : pu_Flow) (g w w2 : ST) (x : Int64) (ch ph : Nat → List Nat) (la : Nat → Nat) : Prop :=
  (pv_sk g ∧ pu_ssa (pv_Fs (pv_sgx g) w w2 ch ph) (fun c => c < B ∧ pv_bt x c = true) (fun c d => D c d ∧ pv_bt x d = true) ∧ (∀ call ar k e m q r, pu_run F0 call ar k 0 0 (e, m, q) = some r → pu_run (pv_Fs (pv_sgx g) w w2 ch ph) call ar k 0 0 (e, m, q) = some r)) ∧
  (∀ p, p < B → pv_bt x p = true → la p < B ∧ D (la p) p ∧ (pv_bt x (la p) = true → la p = p) ∧ w 8 p = w0 8 (la p) ∧ w 9 p = w0 9 (la p) ∧ w 10 p = w0 10 (la p) ∧ w 11 p = w0 11 (la p)) ∧
  (∀ p p', p < B → p' < B → pv_bt x p = true → pv_bt x p' = true → la p = la p' → p = p') ∧
  (∀ p c, p < B → c < B → pv_bt x p = true → pv_bt x c = true → pv_eg w0 (la p) c → ∀ a ∈ ph c, w 21 (a * 60 + p) = w0 21 (a * 60 + la p) ∧ w 21 (a * 60 + la p) = w0 21 (a * 60 + la p)) ∧
  (pv_stc B w w2 ch ∧ pv_dis B N ch ∧ pv_phc B w ph ∧ pv_dis B M ph) ∧
  (∀ c, c < B → (pv_bt x c = true → ph c = ph0 c) ∧ (¬ pv_bt x c = true → ph c = [])) ∧
  (∀ c, c < B → ∀ a ∈ ch c, ∃ c', c' < B ∧ a ∈ ch0 c') ∧
  (∀ c, c < B → ∀ a ∈ ph c, g 6 (nn (w 19 a)) < 0) ∧
  (∀ c p, c < B → p < B → pv_eg w p c → ∀ a ∈ ph c, ixb (w 21 (a * 60 + p)) 250 = true) ∧
  (pv_ends B w ∧ pv_sv B w ∧ (∀ p, p < B → ¬ pv_eg w p 0) ∧ pv_nf B w ph) ∧
  (∀ r, r ≠ 4 → r ≠ 5 → r ≠ 6 → r ≠ 7 → r ≠ 8 → r ≠ 9 → r ≠ 10 → r ≠ 11 → r ≠ 21 → w r = w0 r) ∧ (∀ r, r ≠ 6 → w2 r = w20 r)
theorem pv_bt_cl2 {x : Int64} {i : Nat} (hi : i < 64) (j : Nat) : pv_bt (x &&& (((1 : Int64) <<< ((pu_I i).toInt64 &&& 63)) ^^^ ((-1) : Int64))) j = true ↔ pv_bt x j = true ∧ j ≠ i := by
  by_cases hj : j < 64
  · exact pv_bt_cl hi hj
  · rw [pv_bt_ge (by omega), pv_bt_ge (by omega)]
    exact ⟨fun h => (by cases h), fun h => (by cases h.1)⟩
section MB
variable {B N M Lm fs na : Nat} {D : Nat → Nat → Prop} {l0 l : SL} {g w w2 w0 w20 : ST} {n n2 : Nat → Nat} {ch ph ch0 ph0 : Nat → List Nat} {wb dm la : Nat → Nat} {F0 : pu_Flow}
theorem pv_mb_step (hfl : pv_fl n w0 l0 n2 w20 B N M Lm fs na D ch0 ph0 wb dm) (hM : pv_Mv B N M D w0 w20 ch0 ph0 F0 g w w2 (l 0 7) ch ph la) {b gn : Nat} (hb : b < B) (hg : gn < B) (hbt : pv_bt (l 0 7) b = true) (h22 : w 8 b = 22) (h10 : w 10 b = pu_I gn) (hne : gn ≠ b) (h1 : wb (gn + 1) = wb gn + 1) :
    ∃ g' l' w' w2' ch' ph' la', fX5_mergeInto g l n w (pu_I b) (w 10 b) n2 w2 = some (g', l', w', w2') ∧ pv_Mv B N M D w0 w20 ch0 ph0 F0 g' w' w2' (l' 0 7) ch' ph' la' := by
  obtain ⟨⟨hok0, hrg0, hgk0, hw, htk0⟩, hend0, hsu0, hS0, hd0, hdb, hlp, hdmw, hdm, ⟨hLw, hL, hLp, hLs⟩, hcp, hcn, hno, hnf⟩ := hfl
  obtain ⟨⟨hw00, hB0, hB⟩, ⟨hN2, hN3, hN4, hN5, hN6, hN⟩, ⟨hM19, hM20, hM21, hMM⟩, hstc0, hdis0, hphc0, hdp0, hix0, hix20⟩ := id hok0
  obtain ⟨⟨hsk, hS, hrun⟩, m4, m5, m6, ⟨hstc, hdis, hphc, hdp⟩, m8, m9, m10, m11, ⟨hend, hsv, hn0, hnf0⟩, hrow, hrow2⟩ := hM
  have hG0 := hS0.2.1
  have hun := pv_un_of hS0 hgk0 hix0
  have hek : pv_ek B w := fun c hc => ⟨(hend c hc).2.2.1, (hend c hc).2.2.2⟩
  have r14 : w 14 = w0 14 := hrow 14 (by decide) (by decide) (by decide) (by decide) (by decide) (by decide) (by decide) (by decide) (by decide)
  have r15 : w 15 = w0 15 := hrow 15 (by decide) (by decide) (by decide) (by decide) (by decide) (by decide) (by decide) (by decide) (by decide)
  have r19 : w 19 = w0 19 := hrow 19 (by decide) (by decide) (by decide) (by decide) (by decide) (by decide) (by decide) (by decide) (by decide)
  obtain ⟨p0, p1, p2, p3⟩ := hw.2.2.2.1 gn (wb gn) hg (Nat.le_refl _) (by omega)
  have huq : ∀ p, p < B → pv_eg w0 p gn → p = p0 := by
    intro p hp he
    obtain ⟨j, j1, j2, j3⟩ := hw.2.2.2.2.1 gn p hg hp he
    have hj : j = wb gn := by omega
    rw [hj, p2] at j3
    exact (pu_inj (by omega) (by omega) j3).symm
  have heg : ∀ p c, p < B → pv_bt (l 0 7) p = true → (pv_eg w p c ↔ pv_eg w0 (la p) c) := by
    intro p c hp hl
    obtain ⟨_, _, _, _, _, e10, e11⟩ := m4 p hp hl
    unfold pv_eg
    rw [e10, e11]
  have hlb : la b = p0 := huq (la b) (m4 b hb hbt).1 ((heg b gn hb hbt).mp (Or.inl h10))
  have hg0 : gn ≠ 0 := fun e => hn0 b hb (Or.inl (by rw [h10, e]))
  have hDgb : D gn b := pu_only hG0 hd0 hg hg0 hb fun p hp hs => by
    have : p = p0 := huq p hp (hsu0 p gn hp hs)
    rw [this, ← hlb]
    exact Or.inl (m4 b hb hbt).2.1
  have hsc : pv_rsc w b gn := (pv_eg_rs hek hb (by omega)).mpr (Or.inl h10)
  have hgl : pv_bt (l 0 7) gn = true := (hS.2.1.1 b gn ⟨hb, hbt⟩ hsc).2
  have hwf : fX1_wayFrom w (pu_I gn) 0 = some (pu_I p0) := by
    have h := pv_wayFrom (i := 0) hB hw hg (by omega)
    rw [pv_wayFrom_e r14 r15]
    rw [Nat.add_zero, p2] at h
    exact h
  obtain ⟨g', w', w2', c1, c2, c3, c4, c5, ⟨c6, c7, c8, c9⟩, c10, c11, c12, c13, c14, c15⟩ := pv_mergeInto (l := l) (b := b) (gn := gn) (q := p0) hB hN6 hN hM19 hM20 hM21 hMM hstc hdis hphc hdp hb hg p1 hwf hsk hS (fun c hc => hc.1) ⟨hb, hbt⟩ ⟨hg, hgl⟩ h22 h10
    (fun p hp hs => by
      have he := (pv_eg_rs hek hp.1 (by omega)).mp hs
      have := huq (la p) (m4 p hp.1 hp.2).1 ((heg p gn hp.1 hp.2).mp he)
      exact m5 p b hp.1 hb hp.2 hbt (by rw [this, hlb])) hne ⟨hDgb, hbt⟩
    (fun a ha => by
      have h9 := m6 b gn hb hg hbt hgl ((heg b gn hb hbt).mp (Or.inl h10)) a ha
      rw [hlb] at h9
      have h8 := m11 gn b hg hb (Or.inl h10) a ha
      rw [r19]
      exact ⟨hix0 gn hg a (by rw [← (m8 gn hg).1 hgl]; exact ha), by rw [h9.1, h9.2], by rw [h9.2, ← h9.1]; exact h8, by rw [← r19]; exact m10 gn hg a ha⟩) hek hsv
  have hx : ∀ j, pv_bt (upl l 0 7 (l 0 7 &&& (((1 : Int64) <<< ((pu_I gn).toInt64 &&& 63)) ^^^ ((-1) : Int64))) 0 7) j = true ↔ pv_bt (l 0 7) j = true ∧ j ≠ gn := by
    intro j
    rw [pv_upl, if_pos ⟨rfl, rfl⟩]
    exact pv_bt_cl2 (by omega) j
  refine ⟨g', _, w', w2', pv_up (pv_up ch gn []) b (ch b ++ ch gn), pv_up ph gn [], pv_up la b (la gn), by rw [h10]; exact c1, ⟨c2, ?_, fun call ar k e m q r h => c4 call ar k e m q r (hrun call ar k e m q r h)⟩, ?_, ?_, ?_, ⟨c6, c7, c8, c9⟩, ?_, ?_, ?_, ?_, ⟨?_, ?_, ?_, ?_⟩, ?_, ?_⟩
  · have e1 : (fun c => (c < B ∧ pv_bt (l 0 7) c = true) ∧ c ≠ gn) = fun c => c < B ∧ pv_bt (upl l 0 7 (l 0 7 &&& (((1 : Int64) <<< ((pu_I gn).toInt64 &&& 63)) ^^^ ((-1) : Int64))) 0 7) c = true :=
      funext fun c => propext ⟨fun h => ⟨h.1.1, (hx c).mpr ⟨h.1.2, h.2⟩⟩, fun h => ⟨⟨h.1, ((hx c).mp h.2).1⟩, ((hx c).mp h.2).2⟩⟩
    have e2 : (fun c d => (D c d ∧ pv_bt (l 0 7) d = true) ∧ d ≠ gn) = fun c d => D c d ∧ pv_bt (upl l 0 7 (l 0 7 &&& (((1 : Int64) <<< ((pu_I gn).toInt64 &&& 63)) ^^^ ((-1) : Int64))) 0 7) d = true :=
      funext fun c => funext fun d => propext ⟨fun h => ⟨h.1.1, (hx d).mpr ⟨h.1.2, h.2⟩⟩, fun h => ⟨⟨h.1, ((hx d).mp h.2).1⟩, ((hx d).mp h.2).2⟩⟩
    rw [← e1, ← e2]
    exact c3
  · intro p hp hl
    obtain ⟨hl1, hl2⟩ := (hx p).mp hl
    by_cases e : p = b
    · subst e
      obtain ⟨q1, q2, q3, q4, q5, q6, q7⟩ := m4 gn hg hgl
      rw [pv_up_s]
      refine ⟨q1, hG0.2.2.2.1 (la gn) gn p q1 q2 hDgb, fun h => ?_, by rw [c12.1, q4], by rw [c12.2.1, q5], by rw [c12.2.2.1, q6], by rw [c12.2.2.2, q7]⟩
      obtain ⟨h8, h9⟩ := (hx _).mp h
      exact absurd (q3 h8) h9
    · obtain ⟨q1, q2, q3, q4, q5, q6, q7⟩ := m4 p hp hl1
      have h9 := c13 p e
      rw [pv_up_n e]
      exact ⟨q1, q2, fun h => q3 ((hx _).mp h).1, by rw [h9.1, q4], by rw [h9.2.1, q5], by rw [h9.2.2.1, q6], by rw [h9.2.2.2, q7]⟩
  · intro p p' hp hp' hl hl' he
    obtain ⟨hl1, hl2⟩ := (hx p).mp hl
    obtain ⟨hl1', hl2'⟩ := (hx p').mp hl'
    by_cases e : p = b
    · by_cases e' : p' = b
      · rw [e, e']
      · rw [e, pv_up_s, pv_up_n e'] at he
        exact absurd (m5 gn p' hg hp' hgl hl1' he).symm hl2'
    · by_cases e' : p' = b
      · rw [e', pv_up_s, pv_up_n e] at he
        exact absurd (m5 p gn hp hg hl1 hgl he) hl2
      · rw [pv_up_n e, pv_up_n e'] at he
        exact m5 p p' hp hp' hl1 hl1' he
  · intro p c hp hc hl hlc he a ha
    obtain ⟨hl1, hl2⟩ := (hx p).mp hl
    obtain ⟨hc1, hc2⟩ := (hx c).mp hlc
    have ha0 : a ∈ ph c := by rw [pv_up_n hc2] at ha; exact ha
    by_cases e : p = b
    · subst e
      rw [pv_up_s] at he ⊢
      have h9 := m6 gn c hg hc hgl hc1 he a ha0
      have hq := (m4 gn hg hgl)
      refine ⟨by rw [c14 c hc ((heg gn c hg hgl).mpr he) a ha, h9.1], ?_⟩
      rw [c15 a (la gn) (by have := hq.1; omega) fun e => hne (by rw [← hq.2.2.1 (by rw [e]; exact hbt), e])]
      exact h9.2
    · rw [pv_up_n e] at he ⊢
      have h9 := m6 p c hp hc hl1 hc1 he a ha0
      have hq := (m4 p hp hl1)
      refine ⟨by rw [c15 a p (by omega) e, h9.1], ?_⟩
      rw [c15 a (la p) (by have := hq.1; omega) fun e9 => e (by rw [← hq.2.2.1 (by rw [e9]; exact hbt), e9])]
      exact h9.2
  · intro c hc
    refine ⟨fun hl => ?_, fun hl => ?_⟩
    · obtain ⟨hl1, hl2⟩ := (hx c).mp hl
      rw [pv_up_n hl2]
      exact (m8 c hc).1 hl1
    · by_cases e : c = gn
      · rw [e, pv_up_s]
      · rw [pv_up_n e]
        exact (m8 c hc).2 fun h => hl ((hx c).mpr ⟨h, e⟩)
  · intro c hc a ha
    by_cases e : c = b
    · rw [e, pv_up_s] at ha
      rcases List.mem_append.mp ha with h | h
      · exact m9 b hb a h
      · exact m9 gn hg a h
    · rw [pv_up_n e] at ha
      by_cases e2 : c = gn
      · rw [e2, pv_up_s] at ha; cases ha
      · rw [pv_up_n e2] at ha
        exact m9 c hc a ha
  · intro c hc a ha
    by_cases e : c = gn
    · rw [e, pv_up_s] at ha; cases ha
    rw [pv_up_n e] at ha
    have hcl : pv_bt (l 0 7) c = true := by
      by_cases h : pv_bt (l 0 7) c = true
      · exact h
      · rw [(m8 c hc).2 h] at ha; cases ha
    have ha0 : a ∈ ph0 c := by rw [← (m8 c hc).1 hcl]; exact ha
    have h19 : w' 19 = w 19 := c10 19 (by decide) (by decide) (by decide) (by decide) (by decide) (by decide) (by decide) (by decide) (by decide)
    rw [h19, c5]
    · exact m10 c hc a ha
    · intro z hz e9
      have hz0 : z ∈ ph0 gn := by rw [← (m8 gn hg).1 hgl]; exact hz
      rw [r19] at e9
      have := hun.2.2 c gn a z hc hg ha0 hz0 (pv_nn_inj (pv_ixn (hix0 c hc a ha0)).1 (pv_ixn (hix0 gn hg z hz0)).1 e9)
      subst this
      exact e (hdp0.2.2 c gn a hc hg ha0 hz0)
  · intro c p hc hp he a ha
    by_cases e : p = b
    · subst e
      have he : pv_eg w gn c := by
        unfold pv_eg at he ⊢
        rw [c12.2.2.1, c12.2.2.2] at he
        exact he
      rw [c14 c hc he a ha]
      by_cases e2 : c = gn
      · rw [e2, pv_up_s] at ha; cases ha
      · rw [pv_up_n e2] at ha
        exact m11 c gn hc hg he a ha
    · have h9 := c13 p e
      have he : pv_eg w p c := by
        unfold pv_eg at he ⊢
        rw [h9.2.2.1, h9.2.2.2] at he
        exact he
      rw [c15 a p (by omega) e]
      by_cases e2 : c = gn
      · rw [e2, pv_up_s] at ha; cases ha
      · rw [pv_up_n e2] at ha
        exact m11 c p hc hp he a ha
  · intro c hc
    by_cases e : c = b
    · have h9 := hend gn hg
      rw [e, c12.1, c12.2.1, c12.2.2.1, c12.2.2.2]
      exact h9
    · have h9 := c13 c e
      rw [h9.1, h9.2.1, h9.2.2.1, h9.2.2.2]
      exact hend c hc
  · intro c hc
    by_cases e : c = b
    · rw [e, c12.2.2.1, c12.2.2.2]
      exact hsv gn hg
    · have h9 := c13 c e
      rw [h9.2.2.1, h9.2.2.2]
      exact hsv c hc
  · intro p hp h
    unfold pv_eg at h
    by_cases e : p = b
    · rw [e, c12.2.2.1, c12.2.2.2] at h
      exact hn0 gn hg h
    · have h9 := c13 p e
      rw [h9.2.2.1, h9.2.2.2] at h
      exact hn0 p hp h
  · refine ⟨fun q c hq hc h23 he => ?_, fun q hq => ?_, fun q hq h22 => ?_⟩
    rotate_left
    · by_cases e2 : q = gn
      · rw [e2, pv_up_s]
        exact Nat.zero_le _
      · rw [pv_up_n e2]
        exact hnf0.2.1 q hq
    · by_cases e : q = b
      · rw [e, c12.1] at h22
        rw [e, c12.2.1]
        exact hnf0.2.2 gn hg h22
      · have h9 := c13 q e
        rw [h9.1] at h22
        rw [h9.2.1]
        exact hnf0.2.2 q hq h22
    by_cases e2 : c = gn
    · rw [e2, pv_up_s]
    rw [pv_up_n e2]
    by_cases e : q = b
    · rw [e] at h23 he
      rw [c12.1] at h23
      rw [c12.2.2.1, c12.2.2.2] at he
      exact hnf0.1 gn c hg hc h23 he
    · have h9 := c13 q e
      rw [h9.1] at h23
      rw [h9.2.2.1, h9.2.2.2] at he
      exact hnf0.1 q c hq hc h23 he
  · intro r r4 r5 r6 r7 r8 r9 r10 r11 r21
    rw [c10 r r4 r5 r6 r7 r8 r9 r10 r11 r21, hrow r r4 r5 r6 r7 r8 r9 r10 r11 r21]
  · intro r hr
    rw [c11 r hr, hrow2 r hr]
end MB
