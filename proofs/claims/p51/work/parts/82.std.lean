/-! pure side, stores 13: lifting out of all loops -/
section LD
variable {n n2 : Nat → Nat} {B N M : Nat} {ph : Nat → List Nat} {D : Nat → Nat → Prop}
/-- all blocks of one loop -/
theorem pv_liftLoop {l : SL} {w w2 g : ST} {ch : Nat → List Nat} (hB : B ≤ 60) (hw0 : w 0 0 = pu_I B) (hN2 : N ≤ n2 2) (hN3 : N ≤ n2 3) (hN4 : N ≤ n2 4) (hN5 : N ≤ n2 5) (hN6 : N ≤ n2 6) (hN : N < 50000) {h P : Nat} (hh : h < B) (hP : P < B) (hnP : pv_bt (l 17 h) P = false) (hix : ∀ b, b < B → ∀ a ∈ ph b, ixb (w 19 a) 250 = true)
    (hst : pv_stc B w w2 ch) (hinv : pv_inv B N D w w2 ch ph g) (hl : pu_lop (pv_F w w2 ch ph) B D h (fun c => pv_bt (l 17 h) c = true)) (hsP : pu_sc (pv_F w w2 ch ph) P h) (hon : ∀ p, p < B → pu_sc (pv_F w w2 ch ph) p h → ¬ pv_bt (l 17 h) p = true → p = P) (mv : Nat) :
    ∃ g' w' w2' ch' mv', fX5_liftFromLoops_L48 l n2 (pu_I h) (pu_I P) NF (pu_I mv) 0 g w w2 = some (pu_I mv', g', w', w2') ∧ mv' ≤ mv + N ∧ pv_li B N D ph w w2 ch g' w' w2' ch' := by
  have hsl := pv_sl_le hinv.1
  have hih : ixb (pu_I h) 60 = true := (pu_ix (by omega)).mpr (by omega)
  have hrun := pv_for (G := fun k x (s : Int32 × ST × ST × ST) => fX5_liftFromLoops_L48 l n2 (pu_I h) (pu_I P) k s.1 x s.2.1 s.2.2.1 s.2.2.2) (hi := B)
    (Inv := fun i (s : Int32 × ST × ST × ST) => ∃ c1 m, s.1 = pu_I m ∧ m ≤ mv + pv_sl ch i ∧ pv_li B N D ph w w2 ch s.2.1 s.2.2.1 s.2.2.2 c1 ∧ ∀ c, i ≤ c → pv_bt (l 17 h) c = true → c1 c = ch c)
    (Q := fun (s : Int32 × ST × ST × ST) => ∃ c1 m, s.1 = pu_I m ∧ m ≤ mv + N ∧ pv_li B N D ph w w2 ch s.2.1 s.2.2.1 s.2.2.2 c1)
    ?_ ?_ B 0 NF (pu_I mv, g, w, w2) (by omega) (by have := pv_NF; omega) ⟨ch, mv, rfl, Nat.le_refl _, ⟨hst, hinv, fun _ _ _ => rfl, fun _ _ => rfl, fun _ => Iff.rfl, fun _ _ _ _ _ _ _ h => h⟩, fun _ _ _ => rfl⟩
  · obtain ⟨⟨o1, o2, o3, o4⟩, t1, c1, m, h1, h2, h3⟩ := hrun
    have h1 : o1 = pu_I m := h1
    subst h1
    exact ⟨o2, o3, o4, c1, m, t1, h2, h3⟩
  · rintro k i ⟨x1, g1, w1, w3⟩ hi ⟨c1, m, h1, h2, h3, h4⟩
    have h1 : x1 = pu_I m := h1
    subst h1
    have h3 : pv_li B N D ph w w2 ch g1 w1 w3 c1 := h3
    have hw1 : w1 0 0 = pu_I B := by rw [h3.2.2.1 0 (by decide) (by decide)]; exact hw0
    have r8 : w1 8 = w 8 := h3.2.2.1 8 (by decide) (by decide)
    have r10 : w1 10 = w 10 := h3.2.2.1 10 (by decide) (by decide)
    have r11 : w1 11 = w 11 := h3.2.2.1 11 (by decide) (by decide)
    have hform : fX5_liftFromLoops_L48 l n2 (pu_I h) (pu_I P) (k + 1) (pu_I m) (pu_I i) g1 w1 w3 = (if pv_bt (l 17 h) i = true then ((fX5_liftBlock g1 w1 (pu_I i) (l 17 h) (pu_I P) n2 w3).bind fun (o_11 : Int32 × ST × ST × ST) => fX5_liftFromLoops_L48 l n2 (pu_I h) (pu_I P) k (pu_I m + o_11.1) (pu_I (i + 1)) o_11.2.1 o_11.2.2.1 o_11.2.2.2) else fX5_liftFromLoops_L48 l n2 (pu_I h) (pu_I P) k (pu_I m) (pu_I (i + 1)) g1 w1 w3) := by
      show (if (w1 0 0) ≤ pu_I i then some (pu_I m, g1, w1, w3) else (if ixb (pu_I h) 60 = true then ((fX11_holds (l 17 (nn (pu_I h))) (pu_I i)).bind fun (o_7 : Int32) => (if o_7 = 0 then (fX5_liftFromLoops_J89 (fX5_liftFromLoops_L48 l n2 (pu_I h) (pu_I P) k) (pu_I i) (pu_I m) g1 w1 w3) else (if ixb (pu_I h) 60 = true then ((fX5_liftBlock g1 w1 (pu_I i) (l 17 (nn (pu_I h))) (pu_I P) n2 w3).bind fun (o_11 : Int32 × ST × ST × ST) => (fX5_liftFromLoops_J89 (fX5_liftFromLoops_L48 l n2 (pu_I h) (pu_I P) k) (pu_I i) (pu_I m + (o_11.1)) (o_11.2.1) (o_11.2.2.1) (o_11.2.2.2))) else none))) else none)) = _
      rw [hw1, if_neg (by rw [pu_le (by omega) (by omega)]; omega), if_pos hih, pu_nn (by omega), pv_holds (by omega), Option.bind_some]
      unfold fX5_liftFromLoops_J89
      rw [pu_su]
      by_cases hx : pv_bt (l 17 h) i = true
      · rw [if_pos hx, hx, if_neg (by decide), if_pos hih]
      · rw [if_neg hx]
        have hx : pv_bt (l 17 h) i = false := by simpa using hx
        rw [hx, if_pos (by decide)]
    by_cases hx : pv_bt (l 17 h) i = true
    · obtain ⟨g2, w4, w5, c2, m2, e1, e2, e3, e4⟩ := pv_liftBlock (D := D) (ph := ph) hB hN2 hN3 hN4 hN5 hN6 hN (X := l 17 h) (h := h) hP hi hx hnP (by rw [h3.2.2.1 19 (by decide) (by decide)]; exact hix) h3.1 h3.2.1 (pv_lop_eq r8 r10 r11 hl)
        (by unfold pu_sc pv_F at hsP ⊢; simp only [r8, r10, r11]; exact hsP)
        (fun p hp hsc hn => hon p hp (by unfold pu_sc pv_F at hsc ⊢; simp only [r8, r10, r11] at hsc; exact hsc) hn)
      refine ⟨(pu_I (m + m2), g2, w4, w5), ?_, c2, m + m2, rfl, ?_, pv_li_tr h3 e3, fun c hc hcx => ?_⟩
      · show fX5_liftFromLoops_L48 l n2 (pu_I h) (pu_I P) (k + 1) (pu_I m) (pu_I i) g1 w1 w3 = fX5_liftFromLoops_L48 l n2 (pu_I h) (pu_I P) k (pu_I (m + m2)) (pu_I (i + 1)) g2 w4 w5
        rw [hform, if_pos hx, e1, Option.bind_some, ← pv_add m m2]
      · rw [h4 i (Nat.le_refl _) hx] at e2
        show m + m2 ≤ mv + (pv_sl ch i + (ch i).length)
        omega
      · have hcP : c ≠ P := fun e => by rw [e, hnP] at hcx; cases hcx
        rw [e4 c (by omega) hcP, h4 c (by omega) hcx]
    · refine ⟨(pu_I m, g1, w1, w3), ?_, c1, m, rfl, ?_, h3, fun c hc hcx => h4 c (by omega) hcx⟩
      · show fX5_liftFromLoops_L48 l n2 (pu_I h) (pu_I P) (k + 1) (pu_I m) (pu_I i) g1 w1 w3 = fX5_liftFromLoops_L48 l n2 (pu_I h) (pu_I P) k (pu_I m) (pu_I (i + 1)) g1 w1 w3
        rw [hform, if_neg hx]
      · show m ≤ mv + (pv_sl ch i + (ch i).length)
        omega
  · rintro k ⟨x1, g1, w1, w3⟩ ⟨c1, m, h1, h2, h3, h4⟩
    have h3 : pv_li B N D ph w w2 ch g1 w1 w3 c1 := h3
    have hw1 : w1 0 0 = pu_I B := by rw [h3.2.2.1 0 (by decide) (by decide)]; exact hw0
    refine ⟨(x1, g1, w1, w3), ?_, c1, m, h1, by omega, h3⟩
    show (if (w1 0 0) ≤ pu_I B then some (x1, g1, w1, w3) else _) = _
    rw [hw1, if_pos (Int32.le_refl _)]
theorem pv_wys_w {w w' : ST} {wb : Nat → Nat} (h : ∀ r, r ≠ 4 → r ≠ 5 → w' r = w r) (hw : pv_wys B w wb) : pv_wys B w' wb := by
  unfold pv_wys
  rw [h 14 (by decide) (by decide), h 15 (by decide) (by decide), h 10 (by decide) (by decide), h 11 (by decide) (by decide)]
  exact hw
/-- lift: the stores hold a flow that does what the flow did -/
theorem pv_lift {l : SL} {w w2 g : ST} {ch : Nat → List Nat} {wb : Nat → Nat} (hok : pv_ok n w n2 w2 B N M ch ph) (hrg : pv_rg w2 B ch) (hw : pv_wys B w wb) (hgk : pv_gks w2 B ch) (hS : pu_ssa (pv_F w w2 ch ph) (fun b => b < B) D) (hdm : pu_dom (pv_F w w2 ch ph) B D)
    (hsu : ∀ b c, b < B → pu_sc (pv_F w w2 ch ph) b c → w 10 b = pu_I c ∨ w 11 b = pu_I c) (hj : ∀ p, p < B → w 8 p = 22 → w 11 p < 0) (hlp : ∀ h, h < B → l 17 h ≠ 0 → pu_lop (pv_F w w2 ch ph) B D h (fun c => pv_bt (l 17 h) c = true)) :
    ∃ c g' w' w2' ch', fX5_liftFromLoops g n w l n2 w2 = some (pu_I c, g', w', w2') ∧ c ≤ 60 * N ∧ pv_ok n w' n2 w2' B N M ch' ph ∧ pv_rg w2' B ch' ∧ pv_gks w2' B ch' ∧ pu_ssa (pv_F w' w2' ch' ph) (fun b => b < B) D ∧ (∀ r, r ≠ 4 → r ≠ 5 → w' r = w r) ∧ (∀ r, r ≠ 6 → w2' r = w2 r) ∧ (∀ z, (∃ c, c < B ∧ z ∈ ch' c) ↔ ∃ c, c < B ∧ z ∈ ch c) ∧
      (∀ call ar k e m q r, pu_run (pv_F w w2 ch ph) call ar k 0 0 (e, m, q) = some r → pu_run (pv_F w' w2' ch' ph) call ar k 0 0 (e, m, q) = some r) := by
  obtain ⟨⟨hw0, hB0, hB⟩, ⟨hN2, hN3, hN4, hN5, hN6, hN⟩, hM4, hst, hd, hph, hdp, hix, hix2⟩ := id hok
  obtain ⟨g1, a1, a2, a3⟩ := pv_findGivers (g := g) hok
  have hex : ∀ v : Nat, ∃ ba : Nat × Nat, (∀ b, b < B → ∀ a ∈ ph b, nn (w 19 a) = v → b = ba.1) ∧ (∀ b, b < B → ∀ a ∈ ch b, ¬ w2 3 a < 0 → nn (w2 3 a) = v → b = ba.1 ∧ a = ba.2) := by
    intro v
    by_cases c1 : ∃ b a, b < B ∧ a ∈ ch b ∧ ¬ w2 3 a < 0 ∧ nn (w2 3 a) = v
    · obtain ⟨b, a, h1, h2, h3, h4⟩ := c1
      refine ⟨(b, a), fun b2 hb2 a2 ha2 e => ?_, fun b2 hb2 a2 ha2 h0 e => ?_⟩
      · exact (pv_uniq_p hS hgk hb2 h1 ha2 h2 (pv_ixn (hix b2 hb2 a2 ha2)).1 h3 (by rw [e, h4])).elim
      · have he := pv_uniq hS hgk hb2 h1 ha2 h2 h0 h3 (by rw [e, h4])
        subst he
        exact ⟨hd.2.2 b2 b a2 hb2 h1 ha2 h2, rfl⟩
    · by_cases c2 : ∃ b a, b < B ∧ a ∈ ph b ∧ nn (w 19 a) = v
      · obtain ⟨b, a, h1, h2, h3⟩ := c2
        refine ⟨(b, 0), fun b2 hb2 a2 ha2 e => ?_, fun b2 hb2 a2 ha2 h0 e => absurd ⟨b2, a2, hb2, ha2, h0, e⟩ c1⟩
        have hv : w 19 a2 = w 19 a := pv_nn_inj (pv_ixn (hix b2 hb2 a2 ha2)).1 (pv_ixn (hix b h1 a h2)).1 (by rw [e, h3])
        have ma : pv_P w a2 ∈ (pv_F w w2 ch ph b2).1 := List.mem_map_of_mem ha2
        have mz : pv_P w a ∈ (pv_F w w2 ch ph b).1 := List.mem_map_of_mem h2
        exact hS.2.2.2.2.1.2 b2 b (w 19 a2) hb2 h1 (pu_bl_p ma) (by rw [hv]; exact pu_bl_p mz)
      · exact ⟨(0, 0), fun b2 hb2 a2 ha2 e => absurd ⟨b2, a2, hb2, ha2, e⟩ c2, fun b2 hb2 a2 ha2 h0 e => absurd ⟨b2, a2, hb2, ha2, h0, e⟩ c1⟩
  obtain ⟨f, hf⟩ := Classical.axiomOfChoice hex
  obtain ⟨g2, b1, b2⟩ := pv_findHomes (g := g) (hm := fun v => (f v).1) (gi := fun v => (f v).2) hok (fun b hb a ha => ((hf _).1 b hb a ha rfl).symm) (fun b hb a ha h0 => ⟨((hf _).2 b hb a ha h0 rfl).1.symm, ((hf _).2 b hb a ha h0 rfl).2.symm⟩)
  rw [a1] at b1
  have he : g1 = g2 := by injection b1
  subst he
  have hinv : pv_inv B N D w w2 ch ph g1 := ⟨hd, hrg, hgk, a2, b2, hS, hdm, hix2⟩
  have hrun := pv_down (G := fun k x (s : Int32 × ST × ST × ST) => fX5_liftFromLoops_L14 l n2 k s.1 x s.2.1 s.2.2.1 s.2.2.2)
    (Inv := fun k (s : Int32 × ST × ST × ST) => k ≤ B ∧ ∃ c1 m, s.1 = pu_I m ∧ m + k * N ≤ B * N ∧ pv_li B N D ph w w2 ch s.2.1 s.2.2.1 s.2.2.2 c1)
    (Q := fun (s : Int32 × ST × ST × ST) => ∃ c1 m, s.1 = pu_I m ∧ m ≤ B * N ∧ pv_li B N D ph w w2 ch s.2.1 s.2.2.1 s.2.2.2 c1)
    ?_ ?_ B NF (pu_I 0, g1, w, w2) (by have := pv_NF; omega) (by omega) ⟨Nat.le_refl _, ch, 0, rfl, by omega, ⟨hst, hinv, fun _ _ _ => rfl, fun _ _ => rfl, fun _ => Iff.rfl, fun _ _ _ _ _ _ _ h => h⟩⟩
  · obtain ⟨⟨o1, o2, o3, o4⟩, t1, c1, m, h1, h2, h3⟩ := hrun
    have h1 : o1 = pu_I m := h1
    subst h1
    have h3 : pv_li B N D ph w w2 ch o2 o3 o4 c1 := h3
    obtain ⟨k1, k2, k3, k4, k5, k6⟩ := id h3
    obtain ⟨v1, v2, v3, v4, v5, v6, v7, v8⟩ := k2
    refine ⟨m, o2, o3, o4, c1, ?_, ?_, ⟨⟨by rw [k3 0 (by decide) (by decide)]; exact hw0, hB0, hB⟩, ⟨hN2, hN3, hN4, hN5, hN6, hN⟩, hM4, k1, v1, ?_, hdp, by rw [k3 19 (by decide) (by decide)]; exact hix, v8⟩, v2, v3, v6, k3, k4, k5, k6⟩
    · unfold fX5_liftFromLoops
      have t1 : fX5_liftFromLoops_L14 l n2 NF 0 (pu_I B + (-1)) g1 w w2 = some (pu_I m, o2, o3, o4) := t1
      rw [a1, Option.bind_some, hw0, Int32.sub_eq_add_neg, t1, Option.bind_some]
    · have h9 := Nat.mul_le_mul_right N hB
      omega
    · unfold pv_phc
      rw [k3 20 (by decide) (by decide), k3 6 (by decide) (by decide), k3 7 (by decide) (by decide)]
      exact hph
  · rintro k i ⟨x1, g3, w1, w3⟩ ⟨hi, c1, m, h1, h2, h3⟩
    have h1 : x1 = pu_I m := h1
    subst h1
    have h3 : pv_li B N D ph w w2 ch g3 w1 w3 c1 := h3
    have h2 : m + (i + 1) * N ≤ B * N := h2
    have h2 : m + (i * N + N) ≤ B * N := by rw [← Nat.succ_mul]; exact h2
    have r8 : w1 8 = w 8 := h3.2.2.1 8 (by decide) (by decide)
    have r10 : w1 10 = w 10 := h3.2.2.1 10 (by decide) (by decide)
    have r11 : w1 11 = w 11 := h3.2.2.1 11 (by decide) (by decide)
    have hsce : ∀ p c, pu_sc (pv_F w1 w3 c1 ph) p c ↔ pu_sc (pv_F w w2 ch ph) p c := by
      intro p c
      unfold pu_sc pv_F
      simp only [r8, r10, r11]
    have hform : fX5_liftFromLoops_L14 l n2 (k + 1) (pu_I m) (pu_I i) g3 w1 w3 = (if l 17 i = 0 then fX5_liftFromLoops_J38 (fX5_liftFromLoops_L14 l n2 k) l n2 (pu_I m) (pu_I i) g3 w1 w3 (-1) else ((fX5_blockAhead w1 l (pu_I i)).bind fun (o_14 : Int32) => (fX5_liftFromLoops_J38 (fX5_liftFromLoops_L14 l n2 k) l n2 (pu_I m) (pu_I i) g3 w1 w3 o_14))) := by
      show (if pu_I i < 0 then some (pu_I m, g3, w1, w3) else (if ixb (pu_I i) 60 = true then (if (lg_cmp (l 17 (nn (pu_I i))) (0 : Int64)) = 0 then (fX5_liftFromLoops_J38 (fX5_liftFromLoops_L14 l n2 k) l n2 (pu_I m) (pu_I i) g3 w1 w3 (-1)) else ((fX5_blockAhead w1 l (pu_I i)).bind fun (o_14 : Int32) => (fX5_liftFromLoops_J38 (fX5_liftFromLoops_L14 l n2 k) l n2 (pu_I m) (pu_I i) g3 w1 w3 o_14))) else none)) = _
      rw [if_neg (pu_ge (by omega)), if_pos ((pu_ix (by omega)).mpr (by omega)), pu_nn (by omega)]
      by_cases h0 : l 17 i = 0
      · rw [if_pos h0, if_pos ((pv_cmp0 _ _).mpr h0)]
      · rw [if_neg h0, if_neg (fun c => h0 ((pv_cmp0 _ _).mp c))]
    have hneg : ∀ o : Int32, o < 0 → fX5_liftFromLoops_J38 (fX5_liftFromLoops_L14 l n2 k) l n2 (pu_I m) (pu_I i) g3 w1 w3 o = fX5_liftFromLoops_L14 l n2 k (pu_I m) (pu_I i + (-1)) g3 w1 w3 := by
      intro o ho
      unfold fX5_liftFromLoops_J38 fX5_liftFromLoops_J95
      rw [if_pos ho]
    by_cases h0 : l 17 i = 0
    · refine ⟨(pu_I m, g3, w1, w3), ?_, by omega, c1, m, rfl, by omega, h3⟩
      show fX5_liftFromLoops_L14 l n2 (k + 1) (pu_I m) (pu_I i) g3 w1 w3 = fX5_liftFromLoops_L14 l n2 k (pu_I m) (pu_I i + (-1)) g3 w1 w3
      rw [hform, if_pos h0, hneg _ (by decide)]
    · obtain ⟨o, o1, o2⟩ := pv_blockAhead (l := l) (w2 := w3) (ch := c1) (ph := ph) hB (pv_wys_w h3.2.2.1 hw) (h := i) (by omega) (fun b c hb hs => by rw [r10, r11]; exact hsu b c hb ((hsce b c).mp hs)) (fun p hp h22 => by rw [r8] at h22; rw [r11]; exact hj p hp h22)
      rcases o2 with o2 | ⟨P, p1, p2, p3, p4, p5⟩
      · refine ⟨(pu_I m, g3, w1, w3), ?_, by omega, c1, m, rfl, by omega, h3⟩
        show fX5_liftFromLoops_L14 l n2 (k + 1) (pu_I m) (pu_I i) g3 w1 w3 = fX5_liftFromLoops_L14 l n2 k (pu_I m) (pu_I i + (-1)) g3 w1 w3
        rw [hform, if_neg h0, o1, Option.bind_some, hneg _ o2]
      · subst p2
        obtain ⟨g4, w4, w5, c2, m2, e1, e2, e3⟩ := pv_liftLoop (l := l) (ch := c1) hB (by rw [h3.2.2.1 0 (by decide) (by decide)]; exact hw0) hN2 hN3 hN4 hN5 hN6 hN (h := i) (by omega) p1 p3 (by rw [h3.2.2.1 19 (by decide) (by decide)]; exact hix) h3.1 h3.2.1 (pv_lop_eq r8 r10 r11 (hlp i (by omega) h0)) p4 p5 m
        refine ⟨(pu_I m2, g4, w4, w5), ?_, by omega, c2, m2, rfl, by omega, pv_li_tr h3 e3⟩
        show fX5_liftFromLoops_L14 l n2 (k + 1) (pu_I m) (pu_I i) g3 w1 w3 = fX5_liftFromLoops_L14 l n2 k (pu_I m2) (pu_I i + (-1)) g4 w4 w5
        rw [hform, if_neg h0, o1, Option.bind_some]
        unfold fX5_liftFromLoops_J38 fX5_liftFromLoops_J95
        rw [if_neg (pu_ge (by omega)), e1, Option.bind_some]
  · rintro k x ⟨x1, g3, w1, w3⟩ hx ⟨_, c1, m, h1, h2, h3⟩
    refine ⟨(x1, g3, w1, w3), ?_, c1, m, h1, by omega, h3⟩
    show (if x < 0 then some (x1, g3, w1, w3) else _) = _
    rw [if_pos hx]
end LD
