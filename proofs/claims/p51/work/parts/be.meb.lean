/-! pure side, the machine 8: a block is entered, whole; a step; a block's end -/
theorem pm_gk_op {k : Int32} (h : pu_gk k = true) (k0 : k ≠ 0) (k17 : k ≠ 17) (k20 : k ≠ 20) (k21 : k ≠ 21) : pu_isop k = true := by
  unfold pu_gk at h
  unfold pu_isop
  rw [decide_eq_true_iff] at *
  simp only [Int32.le_iff_toInt_le, ← Int32.toInt_inj, ne_eq] at *
  have e0 : Int32.toInt 0 = 0 := by decide
  have e1 : Int32.toInt 1 = 1 := by decide
  have e16 : Int32.toInt 16 = 16 := by decide
  have e17 : Int32.toInt 17 = 17 := by decide
  have e20 : Int32.toInt 20 = 20 := by decide
  have e21 : Int32.toInt 21 = 21 := by decide
  rw [e0, e17, e20, e21] at h
  rw [e0] at k0
  rw [e17] at k17
  rw [e20] at k20
  rw [e21] at k21
  rw [e1, e16]
  omega
theorem pm_operate (w : ST) (k x y : Int32) : fX3_operate w k x y = if pu_fail k y = true then some (0, upw (upw w 0 0 1) 0 8 0) else some (pu_cmp k x y, w) := by
  unfold fX3_operate
  rw [pv_failing, Option.bind_some]
  cases hf : pu_fail k y with
  | true => rw [if_neg (show ¬ pv_b true = 0 by decide), pm_stop, if_pos rfl]; rfl
  | false => rw [if_pos (show pv_b false = 0 by decide), pv_compute, if_neg (show ¬ (false = true) by decide)]; rfl
section EC
variable {n n2 : Nat → Nat} {fw x9 : ST} {l : SL} {B N M Lm fs na : Nat} {D : Nat → Nat → Prop} {ch ph : Nat → List Nat} {wb dm : Nat → Nat}
  {w : ST} {f c b : Nat} {p9 at0 : Int32} {e : pu_E} {m : pu_M} {q ar : List Int32} {t R : Nat}
theorem pm_enB (hfl : pv_fl n fw l n2 x9 B N M Lm fs na D ch ph wb dm) (hb : b < B) (hc : c < 8) (hBX : pm_BX w f c b p9 at0 e m [] ar t R) (ht : t ≤ 5000) (hp : ph b = [] ∨ ∃ p, p < B ∧ p9 = pu_I p ∧ pv_eg fw p b) :
    ∃ w', fX3_enterBlock w n fw (pu_I c) = some w' ∧ pm_fr c 0 R w w' ∧ ((w' 0 8 = 0 ∧ w' 0 0 = 2) ∨ (t + (ph b).length ≤ 5000 ∧ pm_BX w' f c b p9 (fw 4 b) (pu_phs (pv_F fw x9 ch ph b).1 (nn p9) e) m [] ar (t + (ph b).length) R)) := by
  have hlen := pm_phl hfl hb
  have hB : B ≤ 60 := hfl.1.1.1.2.2
  have hphc := hfl.1.1.2.2.2.2.2.1.1 b hb
  have hcx : ixb (pu_I c) 8 = true := (pu_ix (by omega)).mpr hc
  have hcn : nn (pu_I c) = c := pu_nn (by omega)
  have hbx : ixb (w 13 c) 60 = true := by rw [hBX.1.2.2.2.2.1]; exact (pu_ix (by omega)).mpr (by omega)
  have hbn : nn (w 13 c) = b := by rw [hBX.1.2.2.2.2.1]; exact pu_nn (by omega)
  have hNF := pv_NF
  have hfin : ∀ w2 : ST, fX3_enterBlock_L26 n fw (pu_I c) NF 0 (fw 6 b) w = some (.inr w2) → ∀ w3 : ST, fX3_enterBlock_L93 n fw (pu_I c) NF 0 (fw 6 b) w2 = some w3 → fX3_enterBlock w n fw (pu_I c) = some (upw w3 12 c (fw 4 b)) := fun w2 h26 w3 h93 => by
    unfold fX3_enterBlock
    rw [if_pos hcx, hcn, if_pos hbx, hbn, h26, Option.bind_some]
    show (if ixb (w 13 c) 60 = true then ((fX3_enterBlock_L93 n fw (pu_I c) NF 0 (fw 6 b) w2).bind fun (o93 : ST) => (if ixb (w 13 c) 60 = true then (if ixb (pu_I c) 8 = true then (lt9 (upw o93 12 c (fw 4 b)) fun (w23 : ST) => some w23) else none) else none)) else none) = _
    rw [if_pos hbx, h93, Option.bind_some, if_pos hbx, if_pos hcx]
    rfl
  by_cases he : ph b = []
  · obtain ⟨k, hk⟩ : ∃ k, NF = k + 1 := ⟨NF - 1, by omega⟩
    rw [he] at hphc
    have hx : fw 6 b < 0 := pv_n1 hphc
    have h26 : fX3_enterBlock_L26 n fw (pu_I c) NF 0 (fw 6 b) w = some (.inr w) := by
      rw [hk]
      show (if fw 6 b < 0 then some (Sum.inr w) else _) = _
      rw [if_pos hx]
    have h93 : fX3_enterBlock_L93 n fw (pu_I c) NF 0 (fw 6 b) w = some w := by
      rw [hk]
      show (if fw 6 b < 0 then some w else _) = _
      rw [if_pos hx]
    obtain ⟨g1, q1⟩ := pm_bat hBX (fw 4 b)
    refine ⟨_, hfin w h26 w h93, q1, Or.inr ?_⟩
    have hps : pu_phs (pv_F fw x9 ch ph b).1 (nn p9) e = e := by
      show pu_phs ((ph b).map (pv_P fw)) (nn p9) e = e
      rw [he]
      rfl
    rw [hps, he]
    exact ⟨ht, g1⟩
  · obtain ⟨p, hpB, rfl, heg⟩ := hp.resolve_left he
    have h26 := pm_en26 hfl hb hc hpB heg (ph b) [] NF (fw 6 b) t w rfl hphc (by omega) hBX ht (fun z hz => absurd hz (Nat.not_lt_zero z))
    rcases h26 with ⟨w2, e1, e2, e3, e4⟩ | ⟨w2, e1, e2, e3, e4, e5⟩
    · refine ⟨w2, ?_, e4, Or.inl ⟨e2, e3⟩⟩
      have e1 : fX3_enterBlock_L26 n fw (pu_I c) NF 0 (fw 6 b) w = some (.inl w2) := e1
      unfold fX3_enterBlock
      rw [if_pos hcx, hcn, if_pos hbx, hbn, e1]
      rfl
    · obtain ⟨w3, r1, r2, r3⟩ := pm_en93 hfl hb hc (e := e) (p := p) (vs := []) (ph b) [] NF (fw 6 b) e w2 rfl hphc (by omega) e2 e5
      obtain ⟨g1, q1⟩ := pm_bat r2 (fw 4 b)
      refine ⟨_, hfin w2 e1 w3 r1, pm_fr_tr e4 (pm_fr_tr r3 q1), Or.inr ⟨e3, ?_⟩⟩
      have hps : pu_phs (pv_F fw x9 ch ph b).1 (nn (pu_I p)) e = ((ph b).map (pv_P fw)).foldl (fun e8 z => pu_set e8 z.1 (e (z.2 p))) e := by
        rw [pu_nn (show p < 2147483648 by omega)]
        rfl
      rw [hps]
      exact g1
/-- a step that is no call -/
theorem pm_stB {n17 : Nat → Nat} {P : ST} (hfl : pv_fl n fw l n2 x9 B N M Lm fs na D ch ph wb dm) (hb : b < B) (hc : c < 8) {a : Nat} (ha : a ∈ ch b) (hBX : pm_BX w f c b p9 at0 e m q ar t R) (h20 : x9 2 a ≠ 20) (hna : na ≤ ar.length) (har4 : ar.length ≤ 4) {call : pu_Call} :
    ∃ w', fX3_moveStep n17 w n2 x9 (pu_I c) (pu_I a) P = some w' ∧ pm_fr c 0 R w w' ∧ ∀ o, pu_stp call ar (x9 2 a) (x9 3 a) (x9 4 a) (x9 5 a) e m q = some o →
      (o = .inl (1, 0, m) ∧ w' 0 8 = 0 ∧ w' 0 0 = 1 ∧ w' 0 1 = 0 ∧ ∀ z, z < 16 → w' 4 z = m z) ∨ (∃ e' m' q', o = .inr (e', m', q') ∧ pm_BX w' f c b p9 at0 e' m' q' ar t R) := by
  obtain ⟨⟨⟨_, ⟨hN2, hN3, hN4, hN5, hN6, hN⟩, _, _, hd, _, _, _, hg9⟩, hrg, hgk, _, _⟩, _, _, hS, _, _, _, _, _, _, hpar, _⟩ := hfl
  have haN := hd.1 b hb a ha
  have ha31 : a < 2147483648 := by omega
  have hi : ∀ {k}, N ≤ k → ixb (pu_I a) k = true := fun h => (pu_ix ha31).mpr (by omega)
  have hrga := hrg b hb a ha
  have hcell : ∀ {x : Int32}, ixb x 250 = true → ixb (pu_I c * 320 + x) 2560 = true ∧ w 16 (nn (pu_I c * 320 + x)) = e x ∧ nn (pu_I c * 320 + x) = c * 320 + nn x := fun h => pm_bget hBX hc h
  have hset : ∀ (x y : Int32), ixb x 250 = true → pm_BX (upw w 16 (c * 320 + nn x) y) f c b p9 at0 (pu_set e x y) m q ar t R ∧ pm_fr c 0 R w (upw w 16 (c * 320 + nn x) y) := fun x y hx => by
    obtain ⟨v0, v1⟩ := pv_ixn hx
    have h9 := pm_bcell hBX v1 y
    rw [← pu_of v0] at h9
    exact h9
  have hgv : pu_gk (x9 2 a) = true → ixb (x9 3 a) 250 = true := fun h => (hg9 b hb a ha).resolve_left ((hgk b hb a ha).mp h)
  unfold fX3_moveStep
  simp only [lt9]
  rw [if_pos (hi hN2), if_pos (hi hN4), pu_nn ha31]
  by_cases k0 : x9 2 a = 0
  · have hv := hgv (by rw [k0]; decide)
    obtain ⟨c1, c2, c3⟩ := hcell hv
    obtain ⟨g1, q1⟩ := hset (x9 3 a) (x9 4 a) hv
    refine ⟨_, ?_, q1, fun o ho => Or.inr ?_⟩
    · rw [if_pos k0, if_pos (hi hN3), if_pos c1, c3]
      rfl
    · unfold pu_stp at ho
      rw [if_pos k0] at ho
      exact ⟨_, _, _, (Option.some.inj ho).symm, g1⟩
  rw [if_neg k0]
  by_cases k21 : x9 2 a = 21
  · have hv := hgv (by rw [k21]; decide)
    obtain ⟨c1, c2, c3⟩ := hcell hv
    have hx4 := (hpar b hb a ha).2.1 k21
    obtain ⟨x0, x1⟩ := pv_ixn hx4
    have a1 : nn (x9 4 a) < ar.length := by omega
    have harg : fX3_argumentOf w (pu_I c) (x9 4 a) = some (ar.getD (nn (x9 4 a)) 0) := by
      unfold fX3_argumentOf
      have hm : pu_I c * 4 + x9 4 a = pu_I (c * 4 + nn (x9 4 a)) := by
        conv => lhs; rw [pu_of x0, show (4 : Int32) = pu_I 4 from rfl, pv_mul, pv_add]
      rw [hm, if_pos ((pu_ix (by omega)).mpr (by omega)), pu_nn (by omega), hBX.2.2.2.2 _ a1]
    obtain ⟨g1, q1⟩ := hset (x9 3 a) (ar.getD (nn (x9 4 a)) 0) hv
    refine ⟨_, ?_, q1, fun o ho => Or.inr ?_⟩
    · rw [if_pos k21, if_pos (hi hN3), harg, Option.bind_some, if_pos c1, c3]
      rfl
    · unfold pu_stp at ho
      rw [if_neg k0, if_pos k21] at ho
      exact ⟨_, _, _, (Option.some.inj ho).symm, g1⟩
  rw [if_neg k21, if_neg h20]
  by_cases k17 : x9 2 a = 17
  · have hv := hgv (by rw [k17]; decide)
    have hl := hrga.1 (by rw [k17]; decide)
    obtain ⟨c1, c2, c3⟩ := hcell hv
    obtain ⟨d1, d2, d3⟩ := hcell hl
    have h15 := px_and15 (e (x9 4 a))
    obtain ⟨g1, q1⟩ := hset (x9 3 a) (m (nn (e (x9 4 a) &&& 15))) hv
    have hrd : fX3_readWord w (e (x9 4 a)) = some (m (nn (e (x9 4 a) &&& 15))) := by
      unfold fX3_readWord
      rw [if_pos h15, hBX.2.2.2.1 _ (pv_ixn h15).2]
    refine ⟨_, ?_, q1, fun o ho => Or.inr ?_⟩
    · rw [if_pos k17, if_pos (hi hN3), if_pos d1, d2, hrd, Option.bind_some, if_pos c1, c3]
      rfl
    · unfold pu_stp at ho
      rw [if_neg k0, if_neg k21, if_neg h20, if_pos k17] at ho
      exact ⟨_, _, _, (Option.some.inj ho).symm, g1⟩
  rw [if_neg k17]
  by_cases k18 : x9 2 a = 18
  · have hl := hrga.1 (by rw [k18]; decide)
    have hr := hrga.2 (by rw [k18]; decide)
    obtain ⟨c1, c2, c3⟩ := hcell hl
    obtain ⟨d1, d2, d3⟩ := hcell hr
    have h15 := px_and15 (e (x9 4 a))
    obtain ⟨g1, q1⟩ := pm_bmem hBX (nn (e (x9 4 a) &&& 15)) (e (x9 5 a))
    refine ⟨_, ?_, q1, fun o ho => Or.inr ?_⟩
    · rw [if_pos k18, if_pos c1, if_pos (hi hN5), if_pos d1, c2, d2]
      unfold fX3_writeWord
      rw [if_pos h15]
      rfl
    · unfold pu_stp at ho
      rw [if_neg k0, if_neg k21, if_neg h20, if_neg k17, if_pos k18] at ho
      exact ⟨_, _, _, (Option.some.inj ho).symm, g1⟩
  rw [if_neg k18]
  by_cases k19 : x9 2 a = 19
  · have hl := hrga.1 (by rw [k19]; decide)
    obtain ⟨c1, c2, c3⟩ := hcell hl
    obtain ⟨w', r1, r2, r3, _⟩ := pm_bpush hBX (e (x9 4 a))
    refine ⟨w', ?_, r3, fun o ho => Or.inr ?_⟩
    · rw [if_pos k19, if_pos c1, c2, r1]
      rfl
    · unfold pu_stp at ho
      rw [if_neg k0, if_neg k21, if_neg h20, if_neg k17, if_neg k18, if_pos k19] at ho
      exact ⟨_, _, _, (Option.some.inj ho).symm, r2⟩
  rw [if_neg k19]
  have hop : pu_isop (x9 2 a) = true := by
    rcases hS.2.2.2.1 b hb (pv_S x9 a) (List.mem_map_of_mem ha) with h | h | h
    · exact pm_gk_op h k0 k17 h20 k21
    · exact absurd h k18
    · exact absurd h k19
  have hv := hgv (pu_op_gk hop)
  have hu := pu_op_u hop
  have hl := hrga.1 hu.1
  have hr := hrga.2 hu.2
  obtain ⟨c1, c2, c3⟩ := hcell hv
  obtain ⟨d1, d2, d3⟩ := hcell hl
  obtain ⟨b1, b2, b3⟩ := hcell hr
  have hst : ∀ o, pu_stp call ar (x9 2 a) (x9 3 a) (x9 4 a) (x9 5 a) e m q = some o → (if pu_fail (x9 2 a) (e (x9 5 a)) = true then some (.inl (1, 0, m)) else some (.inr (pu_set e (x9 3 a) (pu_cmp (x9 2 a) (e (x9 4 a)) (e (x9 5 a))), m, q))) = some o := fun o ho => by
    unfold pu_stp at ho
    rw [if_neg k0, if_neg k21, if_neg h20, if_neg k17, if_neg k18, if_neg k19] at ho
    exact ho
  have hope := pm_operate w (x9 2 a) (e (x9 4 a)) (e (x9 5 a))
  by_cases hfl9 : pu_fail (x9 2 a) (e (x9 5 a)) = true
  · rw [if_pos hfl9] at hope
    refine ⟨upw (upw (upw w 0 0 1) 0 8 0) 16 (c * 320 + nn (x9 3 a)) 0, ?_, ?_, fun o ho => Or.inl ?_⟩
    · rw [if_pos (hi hN3), if_pos d1, if_pos (hi hN5), if_pos b1, d2, b2, hope, Option.bind_some, if_pos c1, c3]
      rfl
    · refine pm_fr_tr (pm_fr_stop c 0 R w 1) ⟨fun r hr j hj => by rw [pv_upw_n (by rcases hr with h | h | h | h <;> rw [h] <;> decide)], fun z hz => by rw [pv_upw_n (by decide)], fun z hz => by rw [pv_upw, if_neg fun h => by omega], fun z hz => by rw [pv_upw_n (by decide)], fun z hz => absurd hz (Nat.not_lt_zero z), by rw [pv_upw_n (by decide)], by rw [pv_upw_n (by decide)]⟩
    · have h9 := hst o ho
      rw [if_pos hfl9] at h9
      refine ⟨(Option.some.inj h9).symm, ?_, ?_, ?_, fun z hz => ?_⟩
      · rw [pv_upw_n (by decide), pv_upw, if_pos ⟨rfl, rfl⟩]
      · rw [pv_upw_n (by decide), pv_upw, if_neg fun h => absurd h.2 (by decide), pv_upw, if_pos ⟨rfl, rfl⟩]
      · rw [pv_upw_n (by decide), pv_upw, if_neg fun h => absurd h.2 (by decide), pv_upw, if_neg fun h => absurd h.2 (by decide)]
        exact hBX.1.2.2.2.2.2.2.2.2.2
      · rw [pv_upw_n (by decide), pv_upw_n (by decide), pv_upw_n (by decide)]
        exact hBX.2.2.2.1 z hz
  · rw [if_neg hfl9] at hope
    obtain ⟨g1, q1⟩ := hset (x9 3 a) (pu_cmp (x9 2 a) (e (x9 4 a)) (e (x9 5 a))) hv
    refine ⟨_, ?_, q1, fun o ho => Or.inr ?_⟩
    · rw [if_pos (hi hN3), if_pos d1, if_pos (hi hN5), if_pos b1, d2, b2, hope, Option.bind_some, if_pos c1, c3]
      rfl
    · have h9 := hst o ho
      rw [if_neg hfl9] at h9
      exact ⟨_, _, _, (Option.some.inj h9).symm, g1⟩
end EC
