/-! pure side, the maker 16: one phi more -/
theorem pv_atLeast {n k : Nat} {f : RI} (hk : k < 300000) (hn : n < 1000000) :
    ∃ m f', fX11_atLeast n f (pu_I k) = some (m, f') ∧ (∀ i, i < n → f' i = f i) ∧ ((k ≤ n ∧ m = n) ∨ (n < k ∧ m = k + k / 2)) := by
  have hlt : (Int32.ofNat n < pu_I k) ↔ n < k := pu_lt (a := n) (by omega) (by omega)
  by_cases h : n < k
  · obtain ⟨f', e1, e2⟩ := pv_copyOf (R := n) (m := k + k / 2) (f := f) (by omega) (by omega)
    refine ⟨k + k / 2, f', ?_, e2, Or.inr ⟨h, rfl⟩⟩
    unfold fX11_atLeast
    rw [if_pos (hlt.mpr h), pv_half (by omega), pv_add, e1, Option.bind_some, if_pos]
    unfold grs
    exact decide_eq_true ⟨by show n < k + k / 2; omega, by show k + k / 2 ≤ 3 * (k + k / 2 - n); omega⟩
  · refine ⟨n, f, ?_, fun i _ => rfl, Or.inl ⟨by omega, rfl⟩⟩
    unfold fX11_atLeast
    rw [if_neg fun h9 => h (hlt.mp h9)]
/-- the room for phis -/
def pt_pn (n : Nat → Nat) (R : Nat) : Prop := n 19 = R ∧ n 20 = R ∧ 60 * R ≤ n 21 ∧ n 21 ≤ 60 * R + 30
section AP
variable {B R c b : Nat} {n : Nat → Nat} {w : ST} {ph : Nat → List Nat}
theorem pv_addPhi (hB : B ≤ 60) (hc : w 0 17 = pu_I c) (hc1 : c < 1000) (hR : pt_pn n R) (hcR : c ≤ R) (hR1 : R < 2000) (hph : pv_phc B w ph) (hd : pv_dis B c ph) (hb : b < B) (x : Int32) :
    ∃ w' n' R', fX1_addPhi n w (pu_I b) x = some (pu_I c, w', n') ∧ w' 0 17 = pu_I (c + 1) ∧ (∀ i, i ≠ 17 → w' 0 i = w 0 i) ∧ w' 19 c = x ∧ (∀ i, i < c → w' 19 i = w 19 i) ∧ pv_phc B w' (pv_up ph b (ph b ++ [c])) ∧ pv_dis B (c + 1) (pv_up ph b (ph b ++ [c])) ∧
      (∀ r, r ≠ 0 → r ≠ 6 → r ≠ 7 → r ≠ 19 → r ≠ 20 → r ≠ 21 → w' r = w r) ∧ pt_pn n' R' ∧ c + 1 ≤ R' ∧ (R' = R ∨ R' = (c + 1) + (c + 1) / 2) ∧ (∀ r, r ≠ 19 → r ≠ 20 → r ≠ 21 → n' r = n r) ∧ (∀ i, i < c * 60 → w' 21 i = w 21 i) := by
  obtain ⟨h19, h20, h21, h21'⟩ := id hR
  -- once there is room
  have key : ∀ (w9 : ST) (n9 : Nat → Nat) (R9 : Nat), pt_pn n9 R9 → c + 1 ≤ R9 → R9 < 3000 → w9 0 = w 0 → (∀ r, r ≠ 19 → r ≠ 20 → r ≠ 21 → w9 r = w r) → (∀ i, i < c → w9 19 i = w 19 i ∧ w9 20 i = w 20 i) → (∀ i, i < c * 60 → w9 21 i = w 21 i) →
      ∃ w', fX1_addPhi_J66 (pu_I b) x w9 n9 = some (pu_I c, w', n9) ∧ w' 0 17 = pu_I (c + 1) ∧ (∀ i, i ≠ 17 → w' 0 i = w 0 i) ∧ w' 19 c = x ∧ (∀ i, i < c → w' 19 i = w 19 i) ∧ pv_phc B w' (pv_up ph b (ph b ++ [c])) ∧ pv_dis B (c + 1) (pv_up ph b (ph b ++ [c])) ∧
        (∀ r, r ≠ 0 → r ≠ 6 → r ≠ 7 → r ≠ 19 → r ≠ 20 → r ≠ 21 → w' r = w r) ∧ (∀ i, i < c * 60 → w' 21 i = w 21 i) := by
    intro w9 n9 R9 hp hcR9 hR9 hw0 hwr hw19 hw21
    obtain ⟨p19, p20, _, _⟩ := hp
    have hc9 : w9 0 17 = pu_I c := by rw [hw0]; exact hc
    have hph9 : pv_phc B (upw w9 19 c x) ph := by
      refine ⟨fun b' hb' => ?_, fun b' l a hb' h => ?_⟩
      · rw [pv_upw_n (by decide), pv_upw_n (by decide), hwr 6 (by decide) (by decide) (by decide)]
        exact pv_ch_fr (ph b') _ (fun a ha => (hw19 a (hd.1 b' hb' a ha)).2) (hph.1 b' hb')
      · rw [pv_upw_n (by decide), hwr 7 (by decide) (by decide) (by decide)]
        exact hph.2 b' l a hb' h
    have hd9 : pv_dis B (c + 1) ph := ⟨fun b' hb' a ha => Nat.lt_succ_of_lt (hd.1 b' hb' a ha), hd.2.1, hd.2.2⟩
    obtain ⟨w', e1, e2, e3, e4, e5, e6⟩ := pv_linkPhi (n := n9) (s := c) hB (show c + 1 ≤ n9 20 by omega) (by omega) hph9 hd9 hb (Nat.lt_succ_self c) (fun c' hc' h => by have := hd.1 c' hc' c h; omega)
    have e017 : w' 0 17 = pu_I c := by rw [e4 0 (by decide) (by decide) (by decide), pv_upw_n (by decide)]; exact hc9
    refine ⟨upw w' 0 17 (pu_I (c + 1)), ?_, by rw [pv_upw, if_pos ⟨rfl, rfl⟩], fun i hi => ?_, ?_, fun i hi => ?_, ?_, e3, fun r r0 r6 r7 r19 r20 r21 => ?_, fun i hi => by rw [pv_upw_n (by decide), e4 21 (by decide) (by decide) (by decide), pv_upw_n (by decide)]; exact hw21 i hi⟩
    · unfold fX1_addPhi_J66
      rw [hc9, if_pos ((pu_ix (by omega)).mpr (by omega)), pu_nn (show c < 2147483648 by omega)]
      simp only [lt9]
      rw [e1, Option.bind_some, e017, pu_su]
    · rw [pv_upw, if_neg fun h => hi h.2, e4 0 (by decide) (by decide) (by decide), pv_upw_n (by decide), hw0]
    · rw [pv_upw_n (by decide), e4 19 (by decide) (by decide) (by decide), pv_upw, if_pos ⟨rfl, rfl⟩]
    · rw [pv_upw_n (by decide), e4 19 (by decide) (by decide) (by decide), pv_upw, if_neg fun h => by omega]
      exact (hw19 i hi).1
    · unfold pv_phc
      rw [pv_upw_n (by decide), pv_upw_n (by decide), pv_upw_n (by decide)]
      exact e2
    · rw [pv_upw_n r0, e4 r r6 r7 r20, pv_upw_n r19, hwr r r19 r20 r21]
  by_cases hlt : c < R
  · obtain ⟨w', e⟩ := key w n R hR (by omega) (by omega) rfl (fun r _ _ _ => rfl) (fun i _ => ⟨rfl, rfl⟩) (fun i _ => rfl)
    refine ⟨w', n, R, ?_, e.2.1, e.2.2.1, e.2.2.2.1, e.2.2.2.2.1, e.2.2.2.2.2.1, e.2.2.2.2.2.2.1, e.2.2.2.2.2.2.2.1, hR, by omega, Or.inl rfl, fun r _ _ _ => rfl, e.2.2.2.2.2.2.2.2⟩
    unfold fX1_addPhi
    rw [hc, h19, if_pos (show pu_I c < Int32.ofNat R from (pu_lt (b := R) (by omega) (by omega)).mpr hlt)]
    exact e.1
  · have hcr : c = R := by omega
    obtain ⟨m1, f1, a1, a2, a3⟩ := pv_atLeast (n := n 19) (k := c + 1) (f := w 19) (by omega) (by omega)
    obtain ⟨m2, f2, b1, b2, b3⟩ := pv_atLeast (n := n 20) (k := c + 1) (f := w 20) (by omega) (by omega)
    obtain ⟨m3, f3, d1, d2, d3⟩ := pv_atLeast (n := n 21) (k := (c + 1) * 60) (f := w 21) (by omega) (by omega)
    have hm1 : m1 = (c + 1) + (c + 1) / 2 := by rcases a3 with h | h <;> omega
    have hm2 : m2 = (c + 1) + (c + 1) / 2 := by rcases b3 with h | h <;> omega
    have hm3 : m3 = (c + 1) * 60 + (c + 1) * 60 / 2 := by rcases d3 with h | h <;> omega
    obtain ⟨w9, hw9⟩ : ∃ w9, w9 = srw (srw (srw w 19 f1) 20 f2) 21 f3 := ⟨_, rfl⟩
    obtain ⟨n9, hn9⟩ : ∃ n9, n9 = stn (stn (stn n 19 m1) 20 m2) 21 m3 := ⟨_, rfl⟩
    have hp9 : pt_pn n9 m1 := by
      refine ⟨?_, ?_, ?_, ?_⟩
      · rw [hn9, pv_stn, if_neg (by decide), pv_stn, if_neg (by decide), pv_stn, if_pos rfl]
      · rw [hn9, pv_stn, if_neg (by decide), pv_stn, if_pos rfl, hm1, hm2]
      · rw [hn9, pv_stn, if_pos rfl]; omega
      · rw [hn9, pv_stn, if_pos rfl]; omega
    obtain ⟨w', e⟩ := key w9 n9 m1 hp9 (by omega) (by omega) (by rw [hw9, pv_srw_n (by decide), pv_srw_n (by decide), pv_srw_n (by decide)]) (fun r r19 r20 r21 => by rw [hw9, pv_srw_n r21, pv_srw_n r20, pv_srw_n r19]) (fun i hi => by
      rw [hw9, pv_srw_n (by decide), pv_srw_n (by decide), pv_srw_s, pv_srw_n (by decide), pv_srw_s]
      exact ⟨a2 i (by omega), b2 i (by omega)⟩) (fun i hi => by rw [hw9, pv_srw_s]; exact d2 i (by omega))
    refine ⟨w', n9, m1, ?_, e.2.1, e.2.2.1, e.2.2.2.1, e.2.2.2.2.1, e.2.2.2.2.2.1, e.2.2.2.2.2.2.1, e.2.2.2.2.2.2.2.1, hp9, by omega, Or.inr hm1, fun r r19 r20 r21 => by rw [hn9, pv_stn, if_neg r21, pv_stn, if_neg r20, pv_stn, if_neg r19], e.2.2.2.2.2.2.2.2⟩
    unfold fX1_addPhi
    rw [hc, if_neg (fun h => by
      have h : pu_I c < Int32.ofNat (n 19) := h
      have := (pu_lt (b := n 19) (by omega) (by omega)).mp h
      omega), pu_su, a1, Option.bind_some]
    simp only [lt9]
    unfold fX1_addPhi_G29_11
    rw [show stn n 19 m1 20 = n 20 from rfl, pv_srw_n (show (20 : Nat) ≠ 19 by decide), pv_srw_n (show (0 : Nat) ≠ 19 by decide), hc, pu_su, b1, Option.bind_some]
    simp only [lt9]
    unfold fX1_addPhi_G46_17
    rw [show stn (stn n 19 m1) 20 m2 21 = n 21 from rfl, pv_srw_n (show (21 : Nat) ≠ 20 by decide), pv_srw_n (show (21 : Nat) ≠ 19 by decide), pv_srw_n (show (0 : Nat) ≠ 20 by decide), pv_srw_n (show (0 : Nat) ≠ 19 by decide), hc, pu_su, show (60 : Int32) = pu_I 60 from rfl, pv_mul, d1, Option.bind_some]
    simp only [lt9]
    unfold fX1_addPhi_G66_23
    rw [← hw9, ← hn9]
    exact e.1
end AP
