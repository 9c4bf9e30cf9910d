/-! pure side, the allocator 13: a flow is copied, whole -/
section CPW
variable {n n2 : Nat → Nat} {w w2 : ST} {B N M : Nat} {ch ph : Nat → List Nat} {wb : Nat → Nat}
theorem pa_phc_new {i : Nat} {v v' : ST} {q : Nat → List Nat} (h : pv_phc i v q) (h6 : ∀ b, b < i → v' 6 b = v 6 b ∧ v' 7 b = v 7 b) (h20 : v' 20 = v 20) (hn : v' 6 i = -1) : pv_phc (i + 1) v' (pv_up q i []) := by
  refine ⟨fun b hb => ?_, fun b l a hb he => ?_⟩
  · rw [h20]
    by_cases e : b = i
    · rw [e, pv_up_s]; exact hn
    · rw [pv_up_n e, (h6 b (by omega)).1]
      exact h.1 b (by omega)
  · by_cases e : b = i
    · rw [e, pv_up_s] at he
      have := congrArg List.length he
      rw [List.length_append] at this
      exact absurd this (by show (0 : Nat) ≠ l.length + 1; omega)
    · rw [pv_up_n e] at he
      rw [(h6 b (by omega)).2]
      exact h.2 b l a (by omega) he
theorem pa_stc_new {i : Nat} {v v' x9 : ST} {q : Nat → List Nat} (h : pv_stc i v x9 q) (h4 : ∀ b, b < i → v' 4 b = v 4 b ∧ v' 5 b = v 5 b) (hn : v' 4 i = -1) : pv_stc (i + 1) v' x9 (pv_up q i []) := by
  refine ⟨fun b hb => ?_, fun b l a hb he => ?_⟩
  · by_cases e : b = i
    · rw [e, pv_up_s]; exact hn
    · rw [pv_up_n e, (h4 b (by omega)).1]
      exact h.1 b (by omega)
  · by_cases e : b = i
    · rw [e, pv_up_s] at he
      have := congrArg List.length he
      rw [List.length_append] at this
      exact absurd this (by show (0 : Nat) ≠ l.length + 1; omega)
    · rw [pv_up_n e] at he
      rw [(h4 b (by omega)).2]
      exact h.2 b l a (by omega) he
theorem pa_dis_new {i K : Nat} {q : Nat → List Nat} (h : pv_dis i K q) : pv_dis (i + 1) K (pv_up q i []) := by
  refine ⟨fun b hb a ha => ?_, fun b hb => ?_, fun b c a hb hc h1 h2 => ?_⟩
  · by_cases e : b = i
    · rw [e, pv_up_s] at ha; cases ha
    · rw [pv_up_n e] at ha; exact h.1 b (by omega) a ha
  · by_cases e : b = i
    · rw [e, pv_up_s]; exact List.nodup_nil
    · rw [pv_up_n e]; exact h.2.1 b (by omega)
  · by_cases e : b = i
    · rw [e, pv_up_s] at h1; cases h1
    · by_cases e2 : c = i
      · rw [e2, pv_up_s] at h2; cases h2
      · rw [pv_up_n e] at h1; rw [pv_up_n e2] at h2
        exact h.2.2 b c a (by omega) (by omega) h1 h2
theorem pa_sl_mono (f : Nat → List Nat) : ∀ (j i : Nat), i ≤ j → pv_sl f i ≤ pv_sl f j := by
  intro j
  induction j with
  | zero => intro i h; rw [show i = 0 by omega]; exact Nat.le_refl _
  | succ j ih =>
    intro i h
    by_cases e : i = j + 1
    · rw [e]; exact Nat.le_refl _
    · have := ih i (by omega)
      show pv_sl f i ≤ pv_sl f j + (f j).length
      omega
/-- blocks copied so far -/
def pa_cfi (w w2 : ST) (ch ph : Nat → List Nat) (i : Nat) (v : ST) (m : Nat → Nat) (x9 : ST) (m2 : Nat → Nat) (L0 : Int32) (R0 : Nat) : Prop :=
  (v 0 0 = pu_I i ∧ v 0 1 = L0 ∧ v 0 17 = pu_I (pv_sl ph i) ∧ x9 0 0 = pu_I (pv_sl ch i)) ∧
  (∃ R, pt_pn m R ∧ pv_sl ph i ≤ R ∧ (R = R0 ∨ R ≤ 375)) ∧ (∃ R, pv_sR m2 R ∧ pv_sl ch i ≤ R ∧ R ≤ 12770) ∧
  ∃ q qs : Nat → List Nat, pv_phc i v q ∧ pv_dis i (pv_sl ph i) q ∧ pv_stc i v x9 qs ∧ pv_dis i (pv_sl ch i) qs ∧
    ∀ b, b < i → (qs b).map (pv_S x9) = (ch b).map (pv_S w2) ∧ (∀ p, p < 60 → (q b).map (pa_mv v p) = (ph b).map (pa_mv w p)) ∧ v 8 b = w 8 b ∧ v 9 b = w 9 b ∧ v 10 b = w 10 b ∧ v 11 b = w 11 b ∧ v 13 b = w 13 b
theorem pa_cf14 (hw0 : w 0 0 = pu_I B) (hB : B ≤ 60) (h2 : N ≤ n2 2) (h3 : N ≤ n2 3) (h4 : N ≤ n2 4) (h5 : N ≤ n2 5) (h6 : N ≤ n2 6) (hN : N < 50000) (hn19 : M ≤ n 19) (hn20 : M ≤ n 20) (hn21 : M * 60 ≤ n 21) (hM : M < 50000)
    (hst : pv_stc B w w2 ch) (hd : pv_dis B N ch) (hph : pv_phc B w ph) (hdp : pv_dis B M ph) (hsl : pv_sl ch B < 8500) (hsp : pv_sl ph B ≤ 250) {L0 : Int32} {R0 : Nat} (hR0 : R0 ≤ 375) :
    ∀ (mes i k : Nat) (v x9 : ST) (m m2 : Nat → Nat), i + mes = B → mes < k → pa_cfi w w2 ch ph i v m x9 m2 L0 R0 →
      ∃ v' m' x9' m2', fX1_copyFrom_L14 n w n2 w2 k (pu_I i) v m x9 m2 = some (v', m', x9', m2') ∧ pa_cfi w w2 ch ph B v' m' x9' m2' L0 R0 ∧ (∀ r, r ≠ 0 → (r < 4 ∨ 13 < r) → r ≠ 19 → r ≠ 20 → r ≠ 21 → v' r = v r) := by
  intro mes
  induction mes with
  | zero =>
    intro i k v x9 m m2 hi hk hI
    obtain ⟨k', rfl⟩ : ∃ k', k = k' + 1 := ⟨k - 1, by omega⟩
    obtain rfl : i = B := by omega
    refine ⟨v, m, x9, m2, ?_, hI, fun _ _ _ _ _ _ => rfl⟩
    show (if (w 0 0) ≤ pu_I i then some (v, m, x9, m2) else _) = _
    rw [hw0, if_pos (Int32.le_refl _)]
  | succ mes ih =>
    intro i k v x9 m m2 hi hk hI
    obtain ⟨k', rfl⟩ : ∃ k', k = k' + 1 := ⟨k - 1, by omega⟩
    obtain ⟨⟨a1, a2, a3, a4⟩, ⟨R, b1, b2, b3⟩, hR2, q, qs, c1, c2, c3, c4, c5⟩ := hI
    have hiB : i < B := by omega
    have hmoP := pa_sl_mono ph B (i + 1) (by omega)
    have hmoC := pa_sl_mono ch B (i + 1) (by omega)
    have hslP : pv_sl ph (i + 1) = pv_sl ph i + (ph i).length := rfl
    have hslC : pv_sl ch (i + 1) = pv_sl ch i + (ch i).length := rfl
    obtain ⟨v1, e1, e2, e3, e4, e5⟩ := pv_addBlock a1 (show i < 60 by omega) (w 8 i) (w 9 i) (w 10 i) (w 11 i)
    obtain ⟨v2, hv2⟩ : ∃ v2, v2 = upw v1 13 i (w 13 i) := ⟨_, rfl⟩
    have hv2r : ∀ r, r ≠ 13 → v2 r = v1 r := fun r hr => by rw [hv2, pv_upw_n hr]
    have hph2 : pv_phc (i + 1) v2 (pv_up q i []) := pa_phc_new c1 (fun b hb => by
        rw [hv2r 6 (by decide), hv2r 7 (by decide)]
        exact ⟨e4 6 b (by decide) (Or.inl (by omega)), e4 7 b (by decide) (Or.inl (by omega))⟩) (by
        rw [hv2r 20 (by decide)]
        funext z
        exact e4 20 z (by decide) (Or.inr (by decide))) (by rw [hv2r 6 (by decide)]; exact e5.2.2.1)
    have hv217 : v2 0 17 = pu_I (pv_sl ph i) := by rw [hv2r 0 (by decide), e3 17 (by decide)]; exact a3
    obtain ⟨v3, m3, R3, f1, f2, f3, f4, f5, f6, f7, f8, f9, f10, f11, f12, f13⟩ := pa_cf70 hn19 hn20 hn21 hM (b := i) (B := i + 1) (by omega) (Nat.lt_succ_self i) (ph i) NF (w 6 i) (pv_sl ph i) R v2 m (pv_up q i []) (hph.1 i hiB) (hdp.1 i hiB) (by have := pv_NF; omega) hv217 (by omega) b1 b2 (by rcases b3 with h | h <;> omega) hph2 (pa_dis_new c2)
    rw [pv_up_s, List.nil_append, pv_up_up] at f4 f5
    have hst3 : pv_stc (i + 1) v3 x9 (pv_up qs i []) := pa_stc_new c3 (fun b hb => by
        rw [f9 4 (by decide) (by decide) (by decide) (by decide) (by decide) (by decide), f9 5 (by decide) (by decide) (by decide) (by decide) (by decide) (by decide), hv2r 4 (by decide), hv2r 5 (by decide)]
        exact ⟨e4 4 b (by decide) (Or.inl (by omega)), e4 5 b (by decide) (Or.inl (by omega))⟩) (by
        rw [f9 4 (by decide) (by decide) (by decide) (by decide) (by decide) (by decide), hv2r 4 (by decide)]
        exact e5.1)
    obtain ⟨v4, x4, m4, g1, new, g2⟩ := pa_cf126 h2 h3 h4 h5 h6 hN (b := i) (B := i + 1) (by omega) (Nat.lt_succ_self i) (ch i) NF (w 4 i) (pv_sl ch i) v3 x9 m2 (pv_up qs i []) (hst.1 i hiB) (hd.1 i hiB) (by have := pv_NF; omega) a4 (by omega) hR2 hst3 (pa_dis_new c4)
    obtain ⟨d1, d2, d3, d4, d5, d6, d7, d8, d9⟩ := g2
    rw [pv_up_s, List.nil_append, pv_up_up] at d3 d4
    have z4 : ∀ r, r ≠ 4 → r ≠ 5 → v4 r = v3 r := d6
    have z40 : v4 0 = v3 0 := z4 0 (by decide) (by decide)
    have z30 : ∀ j, j ≠ 17 → v3 0 j = v1 0 j := fun j hj => by rw [f3 j hj, hv2r 0 (by decide)]
    have hI2 : pa_cfi w w2 ch ph (i + 1) v4 m3 x4 m4 L0 R0 := by
      refine ⟨⟨by rw [z40, z30 0 (by decide)]; exact e2, by rw [z40, z30 1 (by decide), e3 1 (by decide)]; exact a2, by rw [z40]; exact f2, d1⟩, ⟨R3, f10, f11, ?_⟩, d2, pv_up q i (List.range' (pv_sl ph i) (ph i).length), pv_up qs i new, ?_, f5, d3, d4, fun b hb => ?_⟩
      · rcases f12 with h | h
        · rw [h]; exact b3
        · right
          omega
      · unfold pv_phc
        rw [z4 6 (by decide) (by decide), z4 7 (by decide) (by decide), z4 20 (by decide) (by decide)]
        exact f4
      · have hmv : ∀ p a, a < pv_sl ph i → pa_mv v4 p a = pa_mv v3 p a := fun p a _ => by
          unfold pa_mv
          rw [z4 19 (by decide) (by decide), z4 21 (by decide) (by decide)]
        have hmv2 : ∀ p a, p < 60 → a < pv_sl ph i → pa_mv v3 p a = pa_mv v p a := fun p a hp ha => by
          unfold pa_mv
          rw [f7 a ha, f8 (a * 60 + p) (by omega), hv2r 19 (by decide), hv2r 21 (by decide), e4 19 a (by decide) (Or.inr (by decide)), e4 21 (a * 60 + p) (by decide) (Or.inr (by decide))]
        have hrow : ∀ r, r = 8 ∨ r = 9 ∨ r = 10 ∨ r = 11 ∨ r = 13 → v4 r = v2 r := fun r hr => by
          rw [z4 r (by omega) (by omega), f9 r (by omega) (by omega) (by omega) (by omega) (by omega) (by omega)]
        rw [hrow 8 (by omega), hrow 9 (by omega), hrow 10 (by omega), hrow 11 (by omega), hrow 13 (by omega), hv2r 8 (by decide), hv2r 9 (by decide), hv2r 10 (by decide), hv2r 11 (by decide)]
        by_cases e : b = i
        · subst e
          rw [pv_up_s, pv_up_s]
          refine ⟨d7, fun p hp => ?_, e5.2.2.2.2.1, e5.2.2.2.2.2.1, e5.2.2.2.2.2.2.1, e5.2.2.2.2.2.2.2, by rw [hv2, pv_upw, if_pos ⟨rfl, rfl⟩]⟩
          rw [← f6 p hp]
          refine List.map_congr_left fun a _ => ?_
          unfold pa_mv
          rw [z4 19 (by decide) (by decide), z4 21 (by decide) (by decide)]
        · rw [pv_up_n e, pv_up_n e]
          obtain ⟨k1, k2, k3, k4, k5, k6, k7⟩ := c5 b (by omega)
          refine ⟨?_, fun p hp => ?_, by rw [e4 8 b (by decide) (Or.inl e)]; exact k3, by rw [e4 9 b (by decide) (Or.inl e)]; exact k4, by rw [e4 10 b (by decide) (Or.inl e)]; exact k5, by rw [e4 11 b (by decide) (Or.inl e)]; exact k6, by rw [hv2, pv_upw, if_neg fun h => e h.2, e4 13 b (by decide) (Or.inr (by decide))]; exact k7⟩
          · rw [← k1]
            refine List.map_congr_left fun a ha => ?_
            have haN := c4.1 b (by omega) a ha
            unfold pv_S
            rw [d5 2 a (by decide) (by decide) haN, d5 3 a (by decide) (by decide) haN, d5 4 a (by decide) (by decide) haN, d5 5 a (by decide) (by decide) haN]
          · rw [← k2 p hp]
            refine List.map_congr_left fun a ha => ?_
            have haM := c2.1 b (by omega) a ha
            rw [hmv p a haM, hmv2 p a hp haM]
    obtain ⟨v', m', x9', m2', r1, r2, r3⟩ := ih (i + 1) k' v4 x4 m3 m4 (by omega) (by omega) hI2
    refine ⟨v', m', x9', m2', ?_, r2, fun r r0 hr r19 r20 r21 => ?_⟩
    · have hix : ixb (pu_I i) 60 = true := (pu_ix (by omega)).mpr (by omega)
      show (if (w 0 0) ≤ pu_I i then some (v, m, x9, m2) else (if ixb (pu_I i) 60 = true then (if ixb (pu_I i) 60 = true then (if ixb (pu_I i) 60 = true then (if ixb (pu_I i) 60 = true then ((fX1_addBlock v (w 8 (nn (pu_I i))) (w 9 (nn (pu_I i))) (w 10 (nn (pu_I i))) (w 11 (nn (pu_I i)))).bind fun (o_8 : Int32 × ST) => (if ixb (pu_I i) 60 = true then (if ixb (pu_I i) 60 = true then (lt9 (upw (o_8.2) 13 (nn (pu_I i)) (w 13 (nn (pu_I i)))) fun (w12 : ST) => (if ixb (pu_I i) 60 = true then ((fX1_copyFrom_L70 n w (pu_I i) NF (w 6 (nn (pu_I i))) w12 m).bind fun (o70 : ST × (Nat → Nat)) => (fX1_copyFrom_G119_28 (fX1_copyFrom_L14 n w n2 w2 k') w n2 w2 (pu_I i) x9 m2 o70)) else none)) else none) else none)) else none) else none) else none) else none)) = _
      rw [hw0, if_neg (by rw [pu_le (by omega) (by omega)]; omega)]
      simp only [if_pos hix, lt9]
      rw [pu_nn (show i < 2147483648 by omega), e1, Option.bind_some]
      show (fX1_copyFrom_L70 n w (pu_I i) NF (w 6 i) (upw v1 13 i (w 13 i)) m).bind _ = _
      rw [← hv2, f1, Option.bind_some]
      unfold fX1_copyFrom_G119_28
      rw [if_pos hix, pu_nn (show i < 2147483648 by omega), g1, Option.bind_some]
      unfold fX1_copyFrom_G185_49
      rw [pu_su]
      exact r1
    · rw [r3 r r0 hr r19 r20 r21, z4 r (by omega) (by omega), f9 r (by omega) (by omega) (by omega) (by omega) (by omega) (by omega), hv2r r (by omega)]
      funext z
      exact e4 r z r0 (Or.inr (by omega))
theorem pa_copyFrom {p0n : Nat → Nat} {p0w : ST} {m2 : Nat → Nat} {x9 : ST} {Lm R0 R2 : Nat} (hw0 : w 0 0 = pu_I B) (hB : B ≤ 60) (hL : w 0 1 = pu_I Lm) (h2 : N ≤ n2 2) (h3 : N ≤ n2 3) (h4 : N ≤ n2 4) (h5 : N ≤ n2 5) (h6 : N ≤ n2 6) (hN : N < 50000) (hn19 : M ≤ n 19) (hn20 : M ≤ n 20) (hn21 : M * 60 ≤ n 21) (hM : M < 50000)
    (hst : pv_stc B w w2 ch) (hd : pv_dis B N ch) (hph : pv_phc B w ph) (hdp : pv_dis B M ph) (hsl : pv_sl ch B < 8500) (hsp : pv_sl ph B ≤ 250) (hw : pv_wys B w wb) (hR0 : R0 ≤ 375) (hpn : pt_pn p0n R0) (hR2 : pv_sR m2 R2) (hR2' : R2 ≤ 12770) :
    ∃ v m x m2', fX1_copyFrom p0n p0w n w m2 x9 n2 w2 = some (v, m, x, m2') ∧ pa_cfi w w2 ch ph B v m x m2' (pu_I Lm) R0 ∧ pv_wys B v wb := by
  have hc0 : pa_cfi w w2 ch ph 0 (upw (upw (upw (upw p0w 0 0 0) 0 1 0) 0 17 0) 0 1 (w 0 1)) p0n (upw x9 0 0 0) m2 (pu_I Lm) R0 := by
    refine ⟨⟨?_, ?_, ?_, ?_⟩, ⟨R0, hpn, Nat.zero_le _, Or.inl rfl⟩, ⟨R2, hR2, Nat.zero_le _, hR2'⟩, fun _ => [], fun _ => [], ⟨fun b hb => absurd hb (Nat.not_lt_zero b), fun b _ _ hb => absurd hb (Nat.not_lt_zero b)⟩, ⟨fun b hb => absurd hb (Nat.not_lt_zero b), fun b hb => absurd hb (Nat.not_lt_zero b), fun b _ _ hb => absurd hb (Nat.not_lt_zero b)⟩, ⟨fun b hb => absurd hb (Nat.not_lt_zero b), fun b _ _ hb => absurd hb (Nat.not_lt_zero b)⟩, ⟨fun b hb => absurd hb (Nat.not_lt_zero b), fun b hb => absurd hb (Nat.not_lt_zero b), fun b _ _ hb => absurd hb (Nat.not_lt_zero b)⟩, fun b hb => absurd hb (Nat.not_lt_zero b)⟩
    · rw [pv_upw, if_neg (by decide), pv_upw, if_neg (by decide), pv_upw, if_neg (by decide), pv_upw, if_pos (by decide)]; rfl
    · rw [pv_upw, if_pos (by decide)]; exact hL
    · rw [pv_upw, if_neg (by decide), pv_upw, if_pos (by decide)]; rfl
    · rw [pv_upw, if_pos (by decide)]; rfl
  obtain ⟨v, m, x, m2', e1, e2, e3⟩ := pa_cf14 hw0 hB h2 h3 h4 h5 h6 hN hn19 hn20 hn21 hM hst hd hph hdp hsl hsp hR0 B 0 NF _ _ _ _ (by omega) (by have := pv_NF; omega) hc0
  obtain ⟨v2, hv2⟩ : ∃ v2, v2 = srw v 14 (va_cpy (w 14) (v 14) 0 0 (B + 1)) := ⟨_, rfl⟩
  obtain ⟨v3, hv3⟩ : ∃ v3, v3 = srw v2 15 (va_cpy (w 15) (v2 15) 0 0 (wb B)) := ⟨_, rfl⟩
  have hv0 : v 0 0 = pu_I B := e2.1.1
  have hr2 : ∀ r, r ≠ 14 → v2 r = v r := fun r h => by rw [hv2, pv_srw_n h]
  have hr3 : ∀ r, r ≠ 14 → r ≠ 15 → v3 r = v r := fun r h1 h2 => by rw [hv3, pv_srw_n h2, hr2 r h1]
  have hwB := hw.2.2.1 B (Nat.le_refl B)
  have h14 : ∀ b, b ≤ B → v3 14 b = w 14 b := fun b hb => by
    rw [hv3, pv_srw_n (by decide), hv2, pv_srw_s, pk_cpy_in (Nat.zero_le _) (by omega)]
    rw [show 0 + (b - 0) = b by omega]
  have h15 : ∀ j, j < wb B → v3 15 j = w 15 j := fun j hj => by
    rw [hv3, pv_srw_s, pk_cpy_in (Nat.zero_le _) (by omega)]
    rw [show 0 + (j - 0) = j by omega]
  have hwm : ∀ b, b ≤ B → wb b ≤ wb B := by
    have : ∀ d b, b + d = B → wb b ≤ wb B := by
      intro d
      induction d with
      | zero => intro b h; rw [show b = B by omega]; exact Nat.le_refl _
      | succ d ih => intro b h; exact Nat.le_trans (hw.2.1 b (by omega)) (ih (b + 1) (by omega))
    intro b hb
    exact this (B - b) b (by omega)
  obtain ⟨⟨a1, a2, a3, a4⟩, b1, b2, q, qs, c1, c2, c3, c4, c5⟩ := id e2
  have hr10 : ∀ p, p < B → v3 10 p = w 10 p ∧ v3 11 p = w 11 p := fun p hp => by
    rw [hr3 10 (by decide) (by decide), hr3 11 (by decide) (by decide)]
    exact ⟨(c5 p hp).2.2.2.2.1, (c5 p hp).2.2.2.2.2.1⟩
  refine ⟨v3, m, x, m2', ?_, ?_, ⟨fun b hb => by rw [h14 b hb]; exact hw.1 b hb, hw.2.1, hw.2.2.1, fun b j hb j1 j2 => ?_, fun b p hb hp he => ?_, fun b i j hb h1 h2 h3 => ?_⟩⟩
  · unfold fX1_copyFrom fX1_clear
    simp only [lt9]
    rw [Option.bind_some]
    have e1 : fX1_copyFrom_L14 n w n2 w2 NF 0 (upw (upw (upw (upw p0w 0 0 0) 0 1 0) 0 17 0) 0 1 (w 0 1)) p0n (upw x9 0 0 0) m2 = some (v, m, x, m2') := e1
    show (fX1_copyFrom_L14 n w n2 w2 NF 0 (upw (upw (upw (upw p0w 0 0 0) 0 1 0) 0 17 0) 0 1 (w 0 1)) p0n (upw x9 0 0 0) m2).bind _ = _
    rw [e1, Option.bind_some]
    unfold fX1_copyFrom_G191_50
    show (if cpk 0 0 (v 0 0 + 1) 61 61 = true then (lt9 (srw v 14 (va_cpy (w 14) (v 14) (nn 0) (nn 0) (nn (v 0 0 + 1)))) fun (w52 : ST) => (if ixb (w52 0 0) 61 = true then (if cpk 0 0 (w52 14 (nn (w52 0 0))) 120 120 = true then (lt9 (srw w52 15 (va_cpy (w 15) (w52 15) (nn 0) (nn 0) (nn (w52 14 (nn (w52 0 0)))))) fun (w55 : ST) => some (w55, m, x, m2')) else none) else none)) else none) = _
    rw [hv0, pu_su]
    show (if cpk (pu_I 0) (pu_I 0) (pu_I (B + 1)) 61 61 = true then _ else none) = _
    rw [if_pos (pa_cpk (by omega) (by omega) (by decide) (by decide) (by omega)), pu_nn (show B + 1 < 2147483648 by omega)]
    simp only [lt9]
    rw [show nn 0 = 0 from rfl, ← hv2, hr2 0 (by decide), hv0, if_pos ((pu_ix (by omega)).mpr (by omega)), pu_nn (show B < 2147483648 by omega)]
    have h142 : v2 14 B = pu_I (wb B) := by
      have h9 := h14 B (Nat.le_refl B)
      rw [hv3, pv_srw_n (by decide)] at h9
      rw [h9]
      exact hw.1 B (Nat.le_refl B)
    rw [h142]
    show (if cpk (pu_I 0) (pu_I 0) (pu_I (wb B)) 120 120 = true then _ else none) = _
    rw [if_pos (pa_cpk (by omega) (by omega) (by decide) (by decide) (by omega)), pu_nn (show wb B < 2147483648 by omega), ← hv3]
  · refine ⟨⟨by rw [hr3 0 (by decide) (by decide)]; exact a1, by rw [hr3 0 (by decide) (by decide)]; exact a2, by rw [hr3 0 (by decide) (by decide)]; exact a3, a4⟩, b1, b2, q, qs, ?_, c2, ?_, c4, fun b hb => ?_⟩
    · unfold pv_phc
      rw [hr3 6 (by decide) (by decide), hr3 7 (by decide) (by decide), hr3 20 (by decide) (by decide)]
      exact c1
    · unfold pv_stc
      rw [hr3 4 (by decide) (by decide), hr3 5 (by decide) (by decide)]
      exact c3
    · have hmv : ∀ p, pa_mv v3 p = pa_mv v p := fun p => by
        funext a
        unfold pa_mv
        rw [hr3 19 (by decide) (by decide), hr3 21 (by decide) (by decide)]
      rw [hr3 8 (by decide) (by decide), hr3 9 (by decide) (by decide), hr3 10 (by decide) (by decide), hr3 11 (by decide) (by decide), hr3 13 (by decide) (by decide)]
      obtain ⟨k1, k2, k3⟩ := c5 b hb
      exact ⟨k1, fun p hp => by rw [hmv]; exact k2 p hp, k3⟩
  · have := hwm (b + 1) (by omega)
    obtain ⟨p, p1, p2, p3⟩ := hw.2.2.2.1 b j hb j1 j2
    refine ⟨p, p1, by rw [h15 j (by omega)]; exact p2, ?_⟩
    rw [(hr10 p p1).1, (hr10 p p1).2]
    exact p3
  · have := hwm (b + 1) (by omega)
    rw [(hr10 p hp).1, (hr10 p hp).2] at he
    obtain ⟨j, j1, j2, j3⟩ := hw.2.2.2.2.1 b p hb hp he
    exact ⟨j, j1, j2, by rw [h15 j (by omega)]; exact j3⟩
  · have := hwm (b + 1) (by omega)
    rw [h15 i (by omega), h15 j (by omega)]
    exact hw.2.2.2.2.2 b i j hb h1 h2 h3
end CPW
