/-! pure side, totality 1: whatever waits, a call is opened; the machine's state with its contents left open -/
theorem tv_pop {w : ST} {q : Nat} (h : w 0 19 = pu_I q) (hq : q ≤ 512) : ∃ x w2 q2, fX3_pop w = some (x, w2) ∧ q2 ≤ 512 ∧ w2 0 19 = pu_I q2 ∧ (∀ i, i ≠ 19 → w2 0 i = w 0 i) ∧ (∀ r, r ≠ 0 → w2 r = w r) := by
  cases q with
  | zero =>
    refine ⟨0, w, 0, ?_, by omega, h, fun _ _ => rfl, fun _ _ => rfl⟩
    unfold fX3_pop
    rw [h, if_pos (show pu_I 0 = (0 : Int32) from rfl)]
  | succ q => exact ⟨_, _, q, pm_pop h (by omega), by omega, by rw [pv_upw, if_pos ⟨rfl, rfl⟩], fun i hi => by rw [pv_upw, if_neg fun h => hi h.2], fun r hr => pv_upw_n hr⟩
theorem tv_enter47 {w0 : ST} {c : Nat} (hc0 : w0 0 9 = pu_I c) (hc : c < 8) : ∀ (p k : Nat) (w : ST) (q : Nat), p ≤ 4 → p < k → w 0 19 = pu_I q → q ≤ 512 →
    ∃ w' q', fX3_enter_L47 w0 k (pu_I p + (-1)) w = some w' ∧ q' ≤ 512 ∧ w' 0 19 = pu_I q' ∧ (∀ i, i ≠ 19 → w' 0 i = w 0 i) ∧ (∀ z, (∀ y, y < p → z ≠ c * 4 + y) → w' 15 z = w 15 z) ∧ (∀ r, r ≠ 0 → r ≠ 15 → w' r = w r) := by
  intro p
  induction p with
  | zero =>
    intro k w q _ hk h19 hq
    obtain ⟨k', rfl⟩ : ∃ k', k = k' + 1 := ⟨k - 1, by omega⟩
    refine ⟨w, q, ?_, hq, h19, fun _ _ => rfl, fun z _ => rfl, fun r _ _ => rfl⟩
    rfl
  | succ p ih =>
    intro k w q hp hk h19 hq
    obtain ⟨k', rfl⟩ : ∃ k', k = k' + 1 := ⟨k - 1, by omega⟩
    have hm : pu_I (p + 1) + (-1) = pu_I p := by
      rw [← pu_su, Int32.add_assoc]
      show pu_I p + 0 = _
      exact Int32.add_zero _
    obtain ⟨x, w2, q2, hpop, hq2, h219, h20, h2r⟩ := tv_pop h19 hq
    obtain ⟨w1, hw1⟩ : ∃ w1, w1 = upw w2 15 (c * 4 + p) x := ⟨_, rfl⟩
    have h1r : ∀ r, r ≠ 0 → r ≠ 15 → w1 r = w r := fun r r0 r15 => by rw [hw1, pv_upw_n r15, h2r r r0]
    obtain ⟨w', q', e1, e2, e3, e4, e5, e6⟩ := ih k' w1 q2 (by omega) (by omega) (by rw [hw1, pv_upw_n (by decide)]; exact h219) hq2
    refine ⟨w', q', ?_, e2, e3, fun i hi => by rw [e4 i hi, hw1, pv_upw_n (by decide), h20 i hi], fun z hz => ?_, fun r r0 r15 => by rw [e6 r r0 r15, h1r r r0 r15]⟩
    · show (if pu_I (p + 1) + (-1) < 0 then some w else ((fX3_pop w).bind fun (o_6 : Int32 × ST) => (if ixb (((w0 0 9) * 4) + (pu_I (p + 1) + (-1))) 32 = true then (lt9 (upw (o_6.2) 15 (nn (((w0 0 9) * 4) + (pu_I (p + 1) + (-1)))) (o_6.1)) fun (w9 : ST) => ((fX3_enter_L47 w0 k') ((pu_I (p + 1) + (-1)) + (-1)) w9)) else none))) = _
      have hx : (pu_I c * 4 : Int32) + pu_I p = pu_I (c * 4 + p) := by rw [show (4 : Int32) = pu_I 4 from rfl, pv_mul, pv_add]
      rw [hm, if_neg (pu_ge (by omega)), hpop, Option.bind_some, hc0, hx, if_pos ((pu_ix (by omega)).mpr (by omega)), pu_nn (by omega)]
      simp only [lt9]
      rw [← hw1]
      exact e1
    · rw [e5 z fun y hy => hz y (by omega), hw1, pv_upw, if_neg fun h => hz p (Nat.lt_succ_self p) h.2, h2r 15 (by decide)]
/-- a call is opened, whatever waits -/
theorem tv_enter {w P : ST} {n17 : Nat → Nat} {c f p q R : Nat} {way at0 : Int32} (hc0 : w 0 9 = pu_I c) (hc : c < 8) (hf : f < 6) (hp : P 4 f = pu_I p) (hp4 : p ≤ 4) (h19 : w 0 19 = pu_I q) (hq : q ≤ 512) (h17 : w 0 17 = pu_I R) (hn : 8 * R ≤ n17 17) (hn2 : n17 17 < 1000000) (hat : at0 = if way = 0 then P 6 f else if way = 1 then -2 else 0) :
    ∃ w' q', fX3_enter n17 w way (pu_I f) P = some w' ∧ q' ≤ 512 ∧ w' 0 9 = pu_I (c + 1) ∧ w' 0 19 = pu_I q' ∧ (∀ i, i ≠ 9 → i ≠ 19 → w' 0 i = w 0 i) ∧ w' 11 c = pu_I f ∧ w' 13 c = 0 ∧ w' 14 c = -1 ∧ w' 12 c = at0 ∧ pm_fr c 0 R w w' := by
  have hcx : ixb (pu_I c) 8 = true := (pu_ix (by omega)).mpr hc
  have hcn : nn (pu_I c) = c := pu_nn (by omega)
  have hfx : ixb (pu_I f) 6 = true := (pu_ix (by omega)).mpr hf
  have hfn : nn (pu_I f) = f := pu_nn (by omega)
  obtain ⟨w1, hw1⟩ : ∃ w1, w1 = upw w 0 9 (pu_I (c + 1)) := ⟨_, rfl⟩
  obtain ⟨w2, q2, a1, a0, a2, a3, a5, a6⟩ := tv_enter47 (w0 := w) hc0 hc p NF w1 q hp4 (by have := pv_NF; omega) (by rw [hw1, pv_upw, if_neg fun h => absurd h.2 (by decide)]; exact h19) hq
  obtain ⟨w3, hw3⟩ : ∃ w3, w3 = upw (upw (upw w2 11 c (pu_I f)) 13 c 0) 14 c (-1) := ⟨_, rfl⟩
  obtain ⟨w4, hw4⟩ : ∃ w4, w4 = upw w3 12 c at0 := ⟨_, rfl⟩
  obtain ⟨g1, b1, b2, b3⟩ := pm_fillr (n := 2560) (a := c * 320) (b := (c + 1) * 320) (f := w4 16) (v := 0) (by omega) (by omega) (by decide)
  obtain ⟨w5, hw5⟩ : ∃ w5, w5 = srw w4 16 g1 := ⟨_, rfl⟩
  have hcR : (c + 1) * R ≤ n17 17 := Nat.le_trans (Nat.mul_le_mul_right R (show c + 1 ≤ 8 by omega)) hn
  obtain ⟨g2, d1, d2, d3⟩ := pm_fillr (n := n17 17) (a := c * R) (b := (c + 1) * R) (f := w5 17) (v := 0) (Nat.mul_le_mul_right R (Nat.le_succ c)) hcR hn2
  have w2r : ∀ r, r ≠ 0 → r ≠ 15 → w2 r = w r := fun r r0 r15 => by rw [a6 r r0 r15, hw1, pv_upw_n r0]
  have w4r : ∀ r, r ≠ 11 → r ≠ 12 → r ≠ 13 → r ≠ 14 → w4 r = w2 r := fun r r11 r12 r13 r14 => by rw [hw4, pv_upw_n r12, hw3, pv_upw_n r14, pv_upw_n r13, pv_upw_n r11]
  have w5017 : w5 0 17 = pu_I R := by
    rw [hw5, pv_srw_n (by decide), w4r 0 (by decide) (by decide) (by decide) (by decide), a3 17 (by decide), hw1, pv_upw, if_neg fun h => absurd h.2 (by decide)]
    exact h17
  have hfin : ∀ r, r ≠ 16 → r ≠ 17 → srw w5 17 g2 r = w4 r := fun r r16 r17 => by rw [pv_srw_n r17, hw5, pv_srw_n r16]
  have h0i : ∀ i, srw w5 17 g2 0 i = w2 0 i := fun i => by rw [hfin 0 (by decide) (by decide), w4r 0 (by decide) (by decide) (by decide) (by decide)]
  have hsucc : (c + 1) * R = c * R + R := Nat.succ_mul c R
  refine ⟨srw w5 17 g2, q2, ?_, a0, ?_, by rw [h0i]; exact a2, fun i i9 i19 => by rw [h0i, a3 i i19, hw1, pv_upw, if_neg fun h => i9 h.2], ?_, ?_, ?_, ?_, ⟨fun r hr j hj => ?_, fun z hz => ?_, fun z hz => ?_, fun z hz => ?_, fun z hz => absurd hz (Nat.not_lt_zero z), ?_, ?_⟩⟩
  · have h126 : fX3_enter_J126 n17 w w3 at0 = some (srw w5 17 g2) := by
      unfold fX3_enter_J126
      have m1 : (pu_I c * 320 : Int32) = pu_I (c * 320) := pv_mul c 320
      have m2 : ((pu_I c + 1) * 320 : Int32) = pu_I ((c + 1) * 320) := by rw [pu_su]; exact pv_mul (c + 1) 320
      have m3 : pu_I c * pu_I R = pu_I (c * R) := pv_mul c R
      have m4 : (pu_I c + 1) * pu_I R = pu_I ((c + 1) * R) := by rw [pu_su]; exact pv_mul (c + 1) R
      rw [hc0, if_pos hcx, hcn, ← hw4]
      simp only [lt9]
      rw [m1, m2, b1, Option.bind_some, ← hw5, w5017, m3, m4, d1]
      rfl
    unfold fX3_enter
    rw [hc0, if_neg (show ¬ pu_I c = (8 : Int32) from fun h => by have := pu_inj (b := 8) (by omega) (by decide) h; omega), pu_su, ← hw1]
    simp only [lt9]
    have hs1 : P 4 f - 1 = pu_I p + (-1) := by rw [hp]; exact Int32.sub_eq_add_neg _ _
    rw [if_pos hfx, hfn, hs1, a1, Option.bind_some, if_pos hcx, hcn, if_pos hcx, if_pos hcx, ← hw3]
    by_cases hw0 : way = 0
    · rw [if_pos hw0] at hat
      rw [if_pos hw0, if_pos hfx, ← hat]
      exact h126
    · rw [if_neg hw0] at hat ⊢
      by_cases hw1' : way = 1
      · rw [if_pos hw1'] at hat ⊢
        rw [← hat]
        exact h126
      · rw [if_neg hw1'] at hat ⊢
        rw [← hat]
        exact h126
  · rw [h0i, a3 9 (by decide), hw1, pv_upw, if_pos ⟨rfl, rfl⟩]
  · rw [hfin 11 (by decide) (by decide), hw4, pv_upw_n (by decide), hw3, pv_upw_n (by decide), pv_upw_n (by decide), pv_upw, if_pos ⟨rfl, rfl⟩]
  · rw [hfin 13 (by decide) (by decide), hw4, pv_upw_n (by decide), hw3, pv_upw_n (by decide), pv_upw, if_pos ⟨rfl, rfl⟩]
  · rw [hfin 14 (by decide) (by decide), hw4, pv_upw_n (by decide), hw3, pv_upw, if_pos ⟨rfl, rfl⟩]
  · rw [hfin 12 (by decide) (by decide), hw4, pv_upw, if_pos ⟨rfl, rfl⟩]
  · rcases hr with rfl | rfl | rfl | rfl
    · rw [hfin 11 (by decide) (by decide), hw4, pv_upw_n (by decide), hw3, pv_upw_n (by decide), pv_upw_n (by decide), pv_upw, if_neg fun h => by omega, w2r 11 (by decide) (by decide)]
    · rw [hfin 12 (by decide) (by decide), hw4, pv_upw, if_neg fun h => by omega, hw3, pv_upw_n (by decide), pv_upw_n (by decide), pv_upw_n (by decide), w2r 12 (by decide) (by decide)]
    · rw [hfin 13 (by decide) (by decide), hw4, pv_upw_n (by decide), hw3, pv_upw_n (by decide), pv_upw, if_neg fun h => by omega, pv_upw_n (by decide), w2r 13 (by decide) (by decide)]
    · rw [hfin 14 (by decide) (by decide), hw4, pv_upw_n (by decide), hw3, pv_upw, if_neg fun h => by omega, pv_upw_n (by decide), pv_upw_n (by decide), w2r 14 (by decide) (by decide)]
  · rw [hfin 15 (by decide) (by decide), w4r 15 (by decide) (by decide) (by decide) (by decide), a5 z fun y hy => by omega, hw1, pv_upw_n (by decide)]
  · rw [pv_srw_n (by decide), hw5, pv_srw_s, b3 z (by omega), w4r 16 (by decide) (by decide) (by decide) (by decide), w2r 16 (by decide) (by decide)]
  · rw [pv_srw_s, d3 z (by omega), hw5, pv_srw_n (by decide), w4r 17 (by decide) (by decide) (by decide) (by decide), w2r 17 (by decide) (by decide)]
  · rw [h0i, a3 17 (by decide), hw1, pv_upw, if_neg fun h => absurd h.2 (by decide)]
  · rw [hfin 8 (by decide) (by decide), w4r 8 (by decide) (by decide) (by decide) (by decide), w2r 8 (by decide) (by decide)]
/-- a machine that runs, its contents left open -/
def tv_A (w : ST) (c t R : Nat) : Prop := w 0 8 = 1 ∧ w 0 9 = pu_I (c + 1) ∧ (∃ k, k ≤ 512 ∧ w 0 19 = pu_I k) ∧ w 0 2 = pu_I t ∧ w 0 17 = pu_I R ∧ w 0 1 = 0
theorem tv_bx {w : ST} {c t R f b : Nat} {p9 at0 : Int32} (h : tv_A w c t R) (h12 : w 12 c = at0) (h11 : w 11 c = pu_I f) (h13 : w 13 c = pu_I b) (h14 : w 14 c = p9) : ∃ e m q ar, pm_BX w f c b p9 at0 e m q ar t R ∧ ar.length = 4 := by
  obtain ⟨h8, h9, ⟨k, hk, h19⟩, h2, h17, h1⟩ := h
  refine ⟨fun x => w 16 (c * 320 + nn x), w 4, (List.range k).map (w 19), (List.range 4).map (fun z => w 15 (c * 4 + z)), ⟨⟨h8, h9, h12, h11, h13, h14, ?_, h2, h17, h1⟩, fun z hz _ => ?_, fun v hv => ?_, fun _ _ => rfl, fun z hz => ?_⟩, by rw [List.length_map, List.length_range]⟩
  · rw [List.length_map, List.length_range, h19]
    congr 1
    omega
  · rw [List.length_map, List.length_range] at hz
    rw [List.getD_eq_getElem?_getD, List.getElem?_map, List.getElem?_range hz]
    rfl
  · show w 16 (c * 320 + v) = w 16 (c * 320 + nn (pu_I v))
    rw [pu_nn (by omega)]
  · rw [List.length_map, List.length_range] at hz
    rw [List.getD_eq_getElem?_getD, List.getElem?_map, List.getElem?_range hz]
    rfl
theorem tv_xa {w : ST} {f c b : Nat} {p9 at0 : Int32} {e : pu_E} {m : pu_M} {q ar : List Int32} {t R : Nat} (h : pm_BX w f c b p9 at0 e m q ar t R) : tv_A w c t R := ⟨h.1.1, h.1.2.1, ⟨min q.length 512, by omega, h.1.2.2.2.2.2.2.1⟩, h.1.2.2.2.2.2.2.2.1, h.1.2.2.2.2.2.2.2.2.1, h.1.2.2.2.2.2.2.2.2.2⟩
theorem tv_b19 {w : ST} {f c b : Nat} {p9 at0 : Int32} {e : pu_E} {m : pu_M} {q ar : List Int32} {t R : Nat} (h : pm_BX w f c b p9 at0 e m q ar t R) (z0 : Nat) (x : Int32) : ∃ q', pm_BX (upw w 19 z0 x) f c b p9 at0 e m q' ar t R ∧ pm_fr c 0 R w (upw w 19 z0 x) := by
  obtain ⟨⟨h1, h2, h3, h4, h5, h6, h7, h8, h9, h10⟩, hq, hcl, hm, har⟩ := h
  have er : ∀ r, r ≠ 19 → upw w 19 z0 x r = w r := fun r hr => pv_upw_n hr
  refine ⟨(List.range (min q.length 512)).map (upw w 19 z0 x 19), ⟨⟨by rw [er 0 (by decide)]; exact h1, by rw [er 0 (by decide)]; exact h2, by rw [er 12 (by decide)]; exact h3, by rw [er 11 (by decide)]; exact h4, by rw [er 13 (by decide)]; exact h5, by rw [er 14 (by decide)]; exact h6, ?_, by rw [er 0 (by decide)]; exact h8, by rw [er 0 (by decide)]; exact h9, by rw [er 0 (by decide)]; exact h10⟩, fun z hz _ => ?_, by rw [er 16 (by decide)]; exact hcl, by rw [er 4 (by decide)]; exact hm, by rw [er 15 (by decide)]; exact har⟩, ⟨fun r hr j hj => by rw [er r (by rcases hr with h | h | h | h <;> rw [h] <;> decide)], fun z hz => by rw [er 15 (by decide)], fun z hz => by rw [er 16 (by decide)], fun z hz => by rw [er 17 (by decide)], fun z hz => absurd hz (Nat.not_lt_zero z), by rw [er 0 (by decide)], er 8 (by decide)⟩⟩
  · rw [er 0 (by decide), h7, List.length_map, List.length_range]
    congr 1
    omega
  · rw [List.length_map, List.length_range] at hz
    rw [List.getD_eq_getElem?_getD, List.getElem?_map, List.getElem?_range hz]
    rfl
/-! totality 2: a block is entered, whatever waits -/
section TE
variable {n n2 : Nat → Nat} {fw x9 : ST} {l : SL} {B N M Lm fs na : Nat} {D : Nat → Nat → Prop} {ch ph : Nat → List Nat} {wb dm : Nat → Nat}
  {f c b : Nat} {p9 at0 : Int32} {R : Nat}
theorem tv_en26 (hfl : pv_fl n fw l n2 x9 B N M Lm fs na D ch ph wb dm) (hb : b < B) (hc : c < 8) {p : Nat} (hp : p < B) (he : pv_eg fw p b) : ∀ (rem done : List Nat) (k : Nat) (x : Int32) (t : Nat) (w : ST) (e : pu_E) (m : pu_M) (q ar : List Int32), ph b = done ++ rem → pv_ch (fw 20) x rem → rem.length < k → pm_BX w f c b (pu_I p) at0 e m q ar t R → t ≤ 5000 →
    (∃ w', fX3_enterBlock_L26 n fw (pu_I c) k (pu_I done.length) x w = some (.inl w') ∧ w' 0 8 = 0 ∧ pm_fr c 0 R w w') ∨
    (∃ w' e' m' q' t', fX3_enterBlock_L26 n fw (pu_I c) k (pu_I done.length) x w = some (.inr w') ∧ pm_BX w' f c b (pu_I p) at0 e' m' q' ar t' R ∧ t ≤ t' ∧ t' ≤ 5000 ∧ pm_fr c 0 R w w') := by
  have hlen := pm_phl hfl hb
  obtain ⟨⟨⟨⟨h00, hB0, hB⟩, _, ⟨hM19, hM20, hM21, hM⟩, hst, hd, hphc, hdp, hpx, _⟩, hrg, hgk, hwys, htk⟩, _⟩ := hfl
  intro rem
  induction rem with
  | nil =>
    intro done k x t w e m q ar hdr hx hk hBX ht
    obtain ⟨k', rfl⟩ : ∃ k', k = k' + 1 := ⟨k - 1, by have : 0 < k := hk; omega⟩
    right
    refine ⟨w, e, m, q, t, ?_, hBX, Nat.le_refl _, ht, pm_fr_rf c 0 R w⟩
    show (if x < 0 then some (Sum.inr w) else _) = _
    rw [if_pos (pv_n1 hx)]
  | cons a rem ih =>
    intro done k x t w e m q ar hdr hx hk hBX ht
    obtain ⟨rfl, hx⟩ := hx
    have hk : rem.length + 1 < k := hk
    obtain ⟨k', rfl⟩ : ∃ k', k = k' + 1 := ⟨k - 1, by omega⟩
    have ha : a ∈ ph b := by rw [hdr]; exact List.mem_append_right _ List.mem_cons_self
    have haM := hdp.1 b hb a ha
    have hL : ∀ o, fX3_tick w 1 = some o → fX3_enterBlock_L26 n fw (pu_I c) (k' + 1) (pu_I done.length) (pu_I a) w = (if (o.1) = 0 then some (Sum.inl (o.2)) else (if ixb (pu_I c) 8 = true then ((fX1_take n fw (pu_I a) (((o.2) 14) (nn (pu_I c)))).bind fun (o_8 : Int32) => (if ixb ((pu_I c * 320) + o_8) 2560 = true then (if ixb (pu_I done.length) 512 = true then (lt9 (upw (o.2) 19 (nn (pu_I done.length)) (((o.2) 16) (nn ((pu_I c * 320) + o_8)))) fun (w12 : ST) => (if ixb (pu_I a) (n 20) = true then ((fX3_enterBlock_L26 n fw (pu_I c) k') (pu_I done.length + 1) (fw 20 (nn (pu_I a))) w12) else none)) else none) else none)) else none)) := fun o ho => by
      show (if pu_I a < 0 then some (Sum.inr w) else ((fX3_tick w 1).bind _)) = _
      rw [if_neg (pu_ge (by omega)), ho, Option.bind_some]
    rcases pm_btk hBX ht with ⟨hle, htick⟩ | ⟨hle, w', htick, h8, h0, hfr⟩
    · obtain ⟨g1, q1⟩ := pm_btick hBX (t + 1)
      obtain ⟨j, j1, j2, j3⟩ := hwys.2.2.2.2.1 b p hb hp he
      have hv : ixb (fw 21 (a * 60 + p)) 250 = true := by
        have h9 := htk b hb a ha j j1 j2
        rw [j3, pu_nn (by omega)] at h9
        exact h9
      obtain ⟨c1, c2, c3⟩ := pm_bget g1 hc hv
      have hdl : done.length + rem.length + 1 = (ph b).length := by rw [hdr, List.length_append, List.length_cons]; omega
      have hdone : done.length < 512 := by omega
      obtain ⟨qz, g2, q2⟩ := tv_b19 g1 done.length (e (fw 21 (a * 60 + p)))
      have htake : fX1_take n fw (pu_I a) (pu_I p) = some (fw 21 (a * 60 + p)) := by
        unfold fX1_take
        have hm : pu_I a * 60 + pu_I p = pu_I (a * 60 + p) := by rw [show (60 : Int32) = pu_I 60 from rfl, pv_mul, pv_add]
        rw [hm, if_pos ((pu_ix (by omega)).mpr (by omega)), pu_nn (by omega)]
      have hstep : fX3_enterBlock_L26 n fw (pu_I c) (k' + 1) (pu_I done.length) (pu_I a) w = fX3_enterBlock_L26 n fw (pu_I c) k' (pu_I (done ++ [a]).length) (fw 20 a) (upw (upw w 0 2 (pu_I (t + 1))) 19 done.length (e (fw 21 (a * 60 + p)))) := by
        rw [hL _ htick]
        simp only [lt9]
        rw [if_neg (show ¬ (1 : Int32) = 0 by decide), if_pos ((pu_ix (by omega)).mpr hc), pu_nn (show c < 2147483648 by omega), g1.1.2.2.2.2.2.1, htake, Option.bind_some, if_pos c1, if_pos ((pu_ix (by omega)).mpr hdone), c2, if_pos ((pu_ix (by omega)).mpr (by omega)), pu_nn (by omega), pu_nn (by omega), pu_su, List.length_append]
        rfl
      have hih := ih (done ++ [a]) k' (fw 20 a) (t + 1) _ e m qz ar (by rw [hdr, List.append_assoc]; rfl) hx (by omega) g2 hle
      rw [← hstep] at hih
      have hfr := pm_fr_tr q1 q2
      exact hih.imp (fun ⟨w', r1, r2, r4⟩ => ⟨w', r1, r2, pm_fr_tr hfr r4⟩) fun ⟨w', e', m', q', t', r1, r2, r3, r3', r4⟩ => ⟨w', e', m', q', t', r1, r2, by omega, r3', pm_fr_tr hfr r4⟩
    · left
      refine ⟨w', ?_, h8, hfr⟩
      rw [hL _ htick]
      rw [if_pos rfl]
theorem tv_en93 (hfl : pv_fl n fw l n2 x9 B N M Lm fs na D ch ph wb dm) (hb : b < B) (hc : c < 8) {t : Nat} : ∀ (rem done : List Nat) (k : Nat) (x : Int32) (w : ST) (e : pu_E) (m : pu_M) (q ar : List Int32), ph b = done ++ rem → pv_ch (fw 20) x rem → rem.length < k → pm_BX w f c b p9 at0 e m q ar t R →
    ∃ w' e', fX3_enterBlock_L93 n fw (pu_I c) k (pu_I done.length) x w = some w' ∧ pm_BX w' f c b p9 at0 e' m q ar t R ∧ pm_fr c 0 R w w' := by
  have hlen := pm_phl hfl hb
  obtain ⟨⟨⟨⟨h00, hB0, hB⟩, _, ⟨hM19, hM20, hM21, hM⟩, hst, hd, hphc, hdp, hpx, _⟩, hrg, hgk, hwys, htk⟩, _⟩ := hfl
  intro rem
  induction rem with
  | nil =>
    intro done k x w e m q ar hdr hx hk hBX
    obtain ⟨k', rfl⟩ : ∃ k', k = k' + 1 := ⟨k - 1, by have : 0 < k := hk; omega⟩
    refine ⟨w, e, ?_, hBX, pm_fr_rf c 0 R w⟩
    show (if x < 0 then some w else _) = _
    rw [if_pos (pv_n1 hx)]
  | cons a rem ih =>
    intro done k x w e m q ar hdr hx hk hBX
    obtain ⟨rfl, hx⟩ := hx
    have hk : rem.length + 1 < k := hk
    obtain ⟨k', rfl⟩ : ∃ k', k = k' + 1 := ⟨k - 1, by omega⟩
    have ha : a ∈ ph b := by rw [hdr]; exact List.mem_append_right _ List.mem_cons_self
    have haM := hdp.1 b hb a ha
    have hdl : done.length + rem.length + 1 = (ph b).length := by rw [hdr, List.length_append, List.length_cons]; omega
    have hdone : done.length < 512 := by omega
    have hv := hpx b hb a ha
    obtain ⟨v0, v1⟩ := pv_ixn hv
    obtain ⟨c1, c2, c3⟩ := pm_bget hBX hc hv
    obtain ⟨g1, q1⟩ := pm_bcell hBX v1 (w 19 done.length)
    obtain ⟨w', e', r1, r2, r3⟩ := ih (done ++ [a]) k' (fw 20 a) _ _ m q ar (by rw [hdr, List.append_assoc]; rfl) hx (by omega) g1
    refine ⟨w', e', ?_, r2, pm_fr_tr q1 r3⟩
    show (if pu_I a < 0 then some w else (if ixb (pu_I a) (n 19) = true then (if ixb (pu_I done.length) 512 = true then (if ixb ((pu_I c * 320) + (fw 19 (nn (pu_I a)))) 2560 = true then (lt9 (upw w 16 (nn ((pu_I c * 320) + (fw 19 (nn (pu_I a))))) (w 19 (nn (pu_I done.length)))) fun (w19 : ST) => (if ixb (pu_I a) (n 20) = true then ((fX3_enterBlock_L93 n fw (pu_I c) k') (pu_I done.length + 1) (fw 20 (nn (pu_I a))) w19) else none)) else none) else none) else none)) = _
    simp only [lt9]
    rw [if_neg (pu_ge (by omega)), if_pos ((pu_ix (by omega)).mpr (by omega)), if_pos ((pu_ix (by omega)).mpr hdone), pu_nn (show a < 2147483648 by omega), if_pos c1, c3, pu_nn (show done.length < 2147483648 by omega), if_pos ((pu_ix (by omega)).mpr (by omega)), pu_su]
    rw [List.length_append] at r1
    exact r1
theorem tv_enB {w : ST} {e : pu_E} {m : pu_M} {q ar : List Int32} {t : Nat} (hfl : pv_fl n fw l n2 x9 B N M Lm fs na D ch ph wb dm) (hb : b < B) (hc : c < 8) (hBX : pm_BX w f c b p9 at0 e m q ar t R) (ht : t ≤ 5000) (hp : ph b = [] ∨ ∃ p, p < B ∧ p9 = pu_I p ∧ pv_eg fw p b) :
    ∃ w', fX3_enterBlock w n fw (pu_I c) = some w' ∧ pm_fr c 0 R w w' ∧ (w' 0 8 = 0 ∨ ∃ e' m' q' t', t ≤ t' ∧ t' ≤ 5000 ∧ pm_BX w' f c b p9 (fw 4 b) e' m' q' ar t' R) := by
  have hlen := pm_phl hfl hb
  have hB : B ≤ 60 := hfl.1.1.1.2.2
  have hphc := hfl.1.1.2.2.2.2.2.1.1 b hb
  have hcx : ixb (pu_I c) 8 = true := (pu_ix (by omega)).mpr hc
  have hcn : nn (pu_I c) = c := pu_nn (by omega)
  have hbx : ixb (w 13 c) 60 = true := by rw [hBX.1.2.2.2.2.1]; exact (pu_ix (by omega)).mpr (by omega)
  have hbn : nn (w 13 c) = b := by rw [hBX.1.2.2.2.2.1]; exact pu_nn (by omega)
  have hNF := pv_NF
  have hfin : ∀ w2 : ST, fX3_enterBlock_L26 n fw (pu_I c) NF 0 (fw 6 b) w = some (.inr w2) → ∀ w3 : ST, fX3_enterBlock_L93 n fw (pu_I c) NF 0 (fw 6 b) w2 = some w3 → fX3_enterBlock w n fw (pu_I c) = some (upw w3 12 c (fw 4 b)) := fun w2 h26 w3 h93 => by
    unfold fX3_enterBlock
    rw [if_pos hcx, hcn, if_pos hbx, hbn, h26, Option.bind_some]
    show (if ixb (w 13 c) 60 = true then ((fX3_enterBlock_L93 n fw (pu_I c) NF 0 (fw 6 b) w2).bind fun (o93 : ST) => (if ixb (w 13 c) 60 = true then (if ixb (pu_I c) 8 = true then (lt9 (upw o93 12 c (fw 4 b)) fun (w23 : ST) => some w23) else none) else none)) else none) = _
    rw [if_pos hbx, h93, Option.bind_some, if_pos hbx, if_pos hcx]
    rfl
  by_cases he : ph b = []
  · obtain ⟨k, hk⟩ : ∃ k, NF = k + 1 := ⟨NF - 1, by omega⟩
    rw [he] at hphc
    have hx : fw 6 b < 0 := pv_n1 hphc
    have h26 : fX3_enterBlock_L26 n fw (pu_I c) NF 0 (fw 6 b) w = some (.inr w) := by
      rw [hk]
      show (if fw 6 b < 0 then some (Sum.inr w) else _) = _
      rw [if_pos hx]
    have h93 : fX3_enterBlock_L93 n fw (pu_I c) NF 0 (fw 6 b) w = some w := by
      rw [hk]
      show (if fw 6 b < 0 then some w else _) = _
      rw [if_pos hx]
    obtain ⟨g1, q1⟩ := pm_bat hBX (fw 4 b)
    exact ⟨_, hfin w h26 w h93, q1, Or.inr ⟨e, m, q, t, Nat.le_refl _, ht, g1⟩⟩
  · obtain ⟨p, hpB, rfl, heg⟩ := hp.resolve_left he
    have h26 := tv_en26 hfl hb hc hpB heg (ph b) [] NF (fw 6 b) t w e m q ar rfl hphc (by omega) hBX ht
    rcases h26 with ⟨w2, e1, e2, e4⟩ | ⟨w2, e', m', q', t', e1, e2, e3, e3', e4⟩
    · refine ⟨w2, ?_, e4, Or.inl e2⟩
      have e1 : fX3_enterBlock_L26 n fw (pu_I c) NF 0 (fw 6 b) w = some (.inl w2) := e1
      unfold fX3_enterBlock
      rw [if_pos hcx, hcn, if_pos hbx, hbn, e1]
      rfl
    · obtain ⟨w3, e8, r1, r2, r3⟩ := tv_en93 hfl hb hc (ph b) [] NF (fw 6 b) w2 e' m' q' ar rfl hphc (by omega) e2
      obtain ⟨g1, q1⟩ := pm_bat r2 (fw 4 b)
      exact ⟨_, hfin w2 e1 w3 r1, pm_fr_tr e4 (pm_fr_tr r3 q1), Or.inr ⟨e8, m', q', t', e3, e3', g1⟩⟩
end TE
