/-! pure side, the maker 22: a block is filled -/
theorem pv_fill19 {n m : Nat} {f : RI} {v : Int32} (hm : m ≤ n) (hn : n < 1000000) : ∃ g, fJ7_fill_fda19 n f 0 (pu_I m) v = some g ∧ (∀ i, i < m → g i = v) ∧ (∀ i, m ≤ i → g i = f i) := by
  obtain ⟨g, h1, h2, h3⟩ := pv_for (G := fun k i s => fJ7_fill_fda19_L10 n (pu_I m) v k i s) (hi := m) (Inv := fun k (g : RI) => (∀ i, i < k → g i = v) ∧ (∀ i, k ≤ i → g i = f i)) (Q := fun (g : RI) => (∀ i, i < m → g i = v) ∧ (∀ i, m ≤ i → g i = f i))
    (fun k i s hi hI => by
      refine ⟨upd s i v, ?_, fun j hj => ?_, fun j hj => ?_⟩
      · show (if pu_I m ≤ pu_I i then some s else (if ixb (pu_I i) n = true then (lt9 (upd s (nn (pu_I i)) v) fun (f4 : RI) => ((fJ7_fill_fda19_L10 n (pu_I m) v k) (pu_I i + 1) f4)) else none)) = _
        rw [if_neg (by rw [pu_le (by omega) (by omega)]; omega), if_pos ((pu_ix (by omega)).mpr (by omega)), pu_su, pu_nn (by omega)]
        rfl
      · show (if j = i then v else s j) = v
        by_cases hji : j = i
        · rw [if_pos hji]
        · rw [if_neg hji]; exact hI.1 j (by omega)
      · show (if j = i then v else s j) = f j
        rw [if_neg (by omega)]
        exact hI.2 j (by omega))
    (fun k s hI => ⟨s, by
      show (if pu_I m ≤ pu_I m then some s else _) = _
      rw [if_pos (Int32.le_refl _)], hI⟩) m 0 NF f (by omega) (by have := pv_NF; omega) ⟨fun i hi => absurd hi (Nat.not_lt_zero _), fun i _ => rfl⟩
  refine ⟨g, ?_, h2, h3⟩
  have h1 : fJ7_fill_fda19_L10 n (pu_I m) v NF 0 f = some g := h1
  have hr : fJ7_rangeCheck_23922 (Int32.ofNat n) 0 (pu_I m) = some () := by
    unfold fJ7_rangeCheck_23922
    rw [if_pos (show (0 : Int32) ≤ pu_I m from (pu_le (a := 0) (by decide) (by omega)).mpr (Nat.zero_le m)), if_pos (Int32.le_refl _), if_pos (show pu_I m ≤ Int32.ofNat n from (pu_le (b := n) (by omega) (by omega)).mpr hm)]
  unfold fJ7_fill_fda19
  rw [hr, Option.bind_some, h1]
  rfl
section FL
variable {P w fw fw2 : ST} {n n2 : Nat → Nat} {B R0 N b m f Vn : Nat} {ch ph : Nat → List Nat} {fo ot dm : Nat → Nat}
theorem pv_fill67 (hB : B ≤ 60) (hR : pt_rm n m) (hm : m ≤ 250) (hph : pv_phc B fw ph) (hd : pv_dis B m ph) (hb : b < B) (hva : ∀ a, a ∈ ph b → ∃ u, u < 320 ∧ w 19 a = pu_I u) (hvi : ∀ a a', a ∈ ph b → a' ∈ ph b → w 19 a = w 19 a' → a = a') :
    ∃ w', fX4_fillBlock_L67 n fw (pu_I b) NF (fw 6 b) w = some w' ∧ (∀ r, r ≠ 20 → w' r = w r) ∧ (∀ a u, a ∈ ph b → w 19 a = pu_I u → w' 20 (b * 320 + nn (w 19 a)) = fw 19 a) ∧ (∀ z, (∀ a, a ∈ ph b → z ≠ b * 320 + nn (w 19 a)) → w' 20 z = w 20 z) := by
  obtain ⟨R, ⟨h19, h20, h21, h21'⟩, hmR, _⟩ := id hR
  obtain ⟨t, e1, t1, t2, t3⟩ := pv_chl (G := fun k x (s : ST) => fX4_fillBlock_L67 n fw (pu_I b) k x s) (nx := fw 20)
    (Inv := fun done rem s => ph b = done ++ rem ∧ (∀ r, r ≠ 20 → s r = w r) ∧ (∀ a, a ∈ done → s 20 (b * 320 + nn (w 19 a)) = fw 19 a) ∧ (∀ z, (∀ a, a ∈ done → z ≠ b * 320 + nn (w 19 a)) → s 20 z = w 20 z))
    (Q := fun w' => (∀ r, r ≠ 20 → w' r = w r) ∧ (∀ a, a ∈ ph b → w' 20 (b * 320 + nn (w 19 a)) = fw 19 a) ∧ (∀ z, (∀ a, a ∈ ph b → z ≠ b * 320 + nn (w 19 a)) → w' 20 z = w 20 z))
    (by
      rintro k a done rem s ⟨s0, s1, s2, s3⟩
      have hab : a ∈ ph b := by rw [s0]; exact List.mem_append_right _ List.mem_cons_self
      have ham : a < m := hd.1 b hb a hab
      have hnd := hd.2.1 b hb
      rw [s0] at hnd
      have han : a ∉ done := fun h => (List.nodup_append.mp hnd).2.2 a h a List.mem_cons_self rfl
      obtain ⟨u, u1, u2⟩ := hva a hab
      have hx19 : ixb (pu_I a) (n 19) = true := (pu_ix (by omega)).mpr (by omega)
      have hx20 : ixb (pu_I a) (n 20) = true := (pu_ix (by omega)).mpr (by omega)
      have hx : ixb (pu_I b * 320 + s 19 a) 19200 = true ∧ nn (pu_I b * 320 + s 19 a) = b * 320 + nn (w 19 a) := by
        rw [s1 19 (by decide), u2, show (320 : Int32) = pu_I 320 from rfl, pv_mul, pv_add, pu_nn (show u < 2147483648 by omega)]
        exact ⟨(pu_ix (by omega)).mpr (by omega), pu_nn (by omega)⟩
      refine ⟨upw s 20 (b * 320 + nn (w 19 a)) (fw 19 a), ?_, by rw [s0]; simp, fun r hr => by rw [pv_upw_n hr, s1 r hr], fun a' ha' => ?_, fun z hz => ?_⟩
      · show (if pu_I a < 0 then some s else (if ixb (pu_I a) 250 = true then (if ixb (pu_I a) (n 19) = true then (if ixb ((pu_I b * 320) + (s 19 (nn (pu_I a)))) 19200 = true then (lt9 (upw s 20 (nn ((pu_I b * 320) + (s 19 (nn (pu_I a))))) (fw 19 (nn (pu_I a)))) fun (w6 : ST) => (if ixb (pu_I a) (n 20) = true then ((fX4_fillBlock_L67 n fw (pu_I b) k) (fw 20 (nn (pu_I a))) w6) else none)) else none) else none) else none)) = _
        rw [if_neg (pu_ge (by omega)), if_pos ((pu_ix (by omega)).mpr (by omega)), if_pos hx19, pu_nn (show a < 2147483648 by omega), if_pos hx.1, hx.2]
        simp only [lt9]
        rw [if_pos hx20]
      · rcases List.mem_append.mp ha' with h | h
        · have hne : ¬ b * 320 + nn (w 19 a') = b * 320 + nn (w 19 a) := fun e => by
            have hab' : a' ∈ ph b := by rw [s0]; exact List.mem_append_left _ h
            obtain ⟨u', u1', u2'⟩ := hva a' hab'
            have he : nn (w 19 a') = nn (w 19 a) := by omega
            rw [u2, u2', pu_nn (by omega), pu_nn (by omega)] at he
            exact han (by rw [← hvi a' a hab' hab (by rw [u2, u2', he])]; exact h)
          rw [pv_upw, if_neg fun h => hne h.2]
          exact s2 a' h
        · rw [List.mem_singleton.mp h, pv_upw, if_pos ⟨rfl, rfl⟩]
      · rw [pv_upw, if_neg fun h => hz a (List.mem_append_right _ (List.mem_singleton.mpr rfl)) h.2]
        exact s3 z fun a' ha' => hz a' (List.mem_append_left _ ha'))
    (by
      rintro k x done s hx ⟨s0, s1, s2, s3⟩
      rw [List.append_nil] at s0
      refine ⟨s, ?_, s1, by rw [s0]; exact s2, by rw [s0]; exact s3⟩
      show (if x < 0 then some s else _) = _
      rw [if_pos hx]) (ph b) [] (fw 6 b) NF w (hph.1 b hb) (by have := pv_NF; have := pv_len m (ph b) (hd.2.1 b hb) (hd.1 b hb); omega) ⟨rfl, fun r _ => rfl, fun a ha => (by cases ha), fun z _ => rfl⟩
  exact ⟨t, e1, t1, fun a u ha _ => t2 a ha, t3⟩
/-- what is found of a filled block -/
def pt_bf (P w fw : ST) (Vn : Nat) (fo ot dm : Nat → Nat) (ph : Nat → List Nat) (x : Nat) (S : Nat → Int32) : Prop :=
  (∀ a, a ∈ ph x → S (nn (w 19 a)) = fw 19 a) ∧ (∀ u, u < Vn → (∀ a, a ∈ ph x → w 19 a ≠ pu_I u) → S u = if x = 0 then -1 else w 20 (dm x * 320 + u)) ∧
  (∀ v, v < 320 → w 20 (x * 320 + v) = pt_nw P (w 2) (w 4) (fo x) S (ot x) v) ∧ (∀ j, fo x ≤ j → j < ot x → P 9 j = 30 → w 4 j = pt_nw P (w 2) (w 4) (fo x) S j (nn (P 10 j))) ∧ fw 9 x = pt_ev P (w 2) (w 4) (fo x) (ot x)
theorem pv_fillBlock (hf : f < 6) (h5 : P 5 f = pu_I Vn) (hVn : Vn ≤ 320) (hdm : b ≠ 0 → fw 12 b = pu_I (dm b) ∧ dm b < b) (hR : pt_rm n m) (hm : m ≤ 250) (hph : pv_phc B fw ph) (hd : pv_dis B m ph) (hva : ∀ a, a ∈ ph b → ∃ u, u < 320 ∧ w 19 a = pu_I u) (hvi : ∀ a a', a ∈ ph b → a' ∈ ph b → w 19 a = w 19 a' → a = a')
    (hos : pt_os w B fo ot) (hB : B ≤ 60) (hb : b < B) (hvar : ∀ i, fo b ≤ i → i < ot b → (P 9 i = 30 ∨ P 9 i = 31 ∨ P 9 i = 32 ∨ P 9 i = 21) → ∃ u, u < 320 ∧ P 10 i = pu_I u)
    (hop : ∀ i, fo b ≤ i → i < ot b → pt_od (w 2 i) i (ot b) ∧ pt_od (w 3 i) i (ot b)) (hR0 : R0 ≤ 50000) (hN : N + (ot b - fo b) ≤ 3200) (hss : pt_ss B fw fw2 n2 R0 N ch) (h9 : fw 9 b = -1) :
    ∃ w' fw' fw2' n2' N' ch' x S, fX4_fillBlock w P (pu_I f) n fw (pu_I b) n2 fw2 = some (w', fw', fw2', n2') ∧ (∀ r, r ≠ 4 → r ≠ 20 → w' r = w r) ∧ (∀ j, ¬ (fo b ≤ j ∧ j < ot b ∧ P 9 j = 30) → w' 4 j = w 4 j) ∧ (∀ z, z / 320 ≠ b → w' 20 z = w 20 z) ∧
      pt_bf P w' fw' Vn fo ot dm ph b S ∧ (∀ r, r ≠ 4 → r ≠ 5 → r ≠ 9 → fw' r = fw r) ∧ (∀ c, c ≠ b → fw' 9 c = fw 9 c) ∧ pt_ss B fw' fw2' n2' R0 N' ch' ∧ pt_ex N fw2 fw2' ∧ (N ≤ N' ∧ N' ≤ N + (ot b - fo b)) ∧ (∀ c, c ≠ b → ch' c = ch c) ∧ ch' b = ch b ++ x ∧
      x.map (pv_S fw2') = pt_sl P (w 2) (w 3) (w' 4) (fo b) (ot b) ∧ pt_mx n2 n2' := by
  have hfx : ixb (pu_I f) 6 = true := (pu_ix (by omega)).mpr hf
  have hfn : nn (pu_I f) = f := pu_nn (by omega)
  have hbx : ixb (pu_I b) 60 = true := (pu_ix (by omega)).mpr (by omega)
  have hbn : nn (pu_I b) = b := pu_nn (by omega)
  -- what is taken over
  have h1 : ∃ w1, fX4_fillBlock w P (pu_I f) n fw (pu_I b) n2 fw2 = fX4_fillBlock_J58 P n fw (pu_I b) n2 fw2 w1 ∧ (∀ r, r ≠ 20 → w1 r = w r) ∧ (∀ z, z / 320 ≠ b → w1 20 z = w 20 z) ∧ (∀ u, u < Vn → w1 20 (b * 320 + u) = if b = 0 then -1 else w 20 (dm b * 320 + u)) := by
    by_cases h0 : b = 0
    · subst h0
      obtain ⟨g, e1, e2, e3⟩ := pv_fill19 (n := 19200) (m := 320) (f := w 20) (v := -1) (by decide) (by decide)
      refine ⟨srw w 20 g, ?_, fun r hr => pv_srw_n hr, fun z hz => ?_, fun u hu => ?_⟩
      · unfold fX4_fillBlock
        have e1 : fJ7_fill_fda19 19200 (w 20) 0 320 (-1) = some g := e1
        rw [if_pos (show pu_I 0 = (0 : Int32) from rfl), e1]
        rfl
      · rw [pv_srw_s]; exact e3 z (by omega)
      · rw [pv_srw_s, if_pos rfl]; exact e2 _ (by omega)
    · obtain ⟨d1, d2⟩ := hdm h0
      have hm1 : pu_I (dm b) * 320 = pu_I (dm b * 320) := pv_mul (dm b) 320
      have hm2 : pu_I b * 320 = pu_I (b * 320) := pv_mul b 320
      have hck : cpk (pu_I (dm b * 320)) (pu_I (b * 320)) (pu_I Vn) 19200 19200 = true := by
        unfold cpk
        rw [pu_nn (by omega), pu_nn (by omega), pu_nn (by omega)]
        exact decide_eq_true ⟨pu_ge (by omega), pu_ge (by omega), pu_ge (by omega), by omega, by omega⟩
      refine ⟨srw w 20 (va_cpy (w 20) (w 20) (dm b * 320) (b * 320) Vn), ?_, fun r hr => pv_srw_n hr, fun z hz => ?_, fun u hu => ?_⟩
      · unfold fX4_fillBlock
        rw [if_neg (show ¬ pu_I b = (0 : Int32) from fun h => h0 (pu_inj (b := 0) (by omega) (by decide) h)), if_pos hbx, if_pos hfx, hbn, hfn, d1, h5, hm1, hm2, if_pos hck, pu_nn (by omega), pu_nn (by omega), pu_nn (by omega)]
        rfl
      · rw [pv_srw_s]
        unfold va_cpy
        rw [if_neg fun h => hz (by omega)]
      · rw [pv_srw_s, if_neg h0]
        unfold va_cpy
        rw [if_pos ⟨by omega, by omega⟩]
        congr 1
        omega
  obtain ⟨w1, a1, a2, a3, a4⟩ := h1
  have w19 : w1 19 = w 19 := a2 19 (by decide)
  obtain ⟨w2, b1, b2, b3, b4⟩ := pv_fill67 (w := w1) hB hR hm hph hd hb (by rw [w19]; exact hva) (by rw [w19]; exact hvi)
  have w2r : ∀ r, r ≠ 20 → w2 r = w r := fun r hr => by rw [b2 r hr, a2 r hr]
  have hos2 := pt_os_e (w2r 7 (by decide)) (w2r 8 (by decide)) (w2r 15 (by decide)) hos
  obtain ⟨w', fw', fw2', n2', N', ch', x, c1, c2, c3, c4, c5, c6, c7, c8, c9, d1, d2, d3, d4, d5, d6, d7⟩ := pv_fill114 (w := w2) hos2 hB hb hvar (by rw [w2r 2 (by decide), w2r 3 (by decide)]; exact hop) hR0 hN hss h9
  have k4 : w2 4 = w 4 := w2r 4 (by decide)
  have k2 : w2 2 = w 2 := w2r 2 (by decide)
  have k3 : w2 3 = w 3 := w2r 3 (by decide)
  rw [k2] at c5 c6 c9 d6
  rw [k3] at d6
  have k2' : w' 2 = w 2 := by rw [c2 2 (by decide) (by decide), k2]
  have w'19 : w' 19 = w 19 := by rw [c2 19 (by decide) (by decide), w2r 19 (by decide)]
  have hz2 : ∀ z, z / 320 ≠ b → w2 20 z = w 20 z := fun z hz => by
    rw [b4 z fun a ha e => ?_, a3 z hz]
    obtain ⟨u, u1, u2⟩ := hva a ha
    rw [w19, u2, pu_nn (by omega)] at e
    exact hz (by omega)
  refine ⟨w', fw', fw2', n2', N', ch', x, fun u => w2 20 (b * 320 + u), ?_, fun r r4 r20 => by rw [c2 r r4 r20, w2r r r20], fun j hj => by rw [c3 j hj, k4], fun z hz => by rw [c4 z hz, hz2 z hz], ⟨fun a ha => ?_, fun u hu hno => ?_, ?_, ?_, ?_⟩, c7, c8, d1, d2, d3, d4, d5, d6, d7⟩
  · rw [a1]
    unfold fX4_fillBlock_J58
    rw [if_pos hbx, hbn, b1, Option.bind_some, (hos2 b hb).1, Option.bind_some, c1]
    rfl
  · obtain ⟨u, u1, u2⟩ := hva a ha
    show w2 20 (b * 320 + nn (w' 19 a)) = fw' 19 a
    rw [w'19, c7 19 (by decide) (by decide) (by decide), ← w19]
    exact b3 a u ha (by rw [w19]; exact u2)
  · show w2 20 (b * 320 + u) = _
    rw [w'19] at hno
    rw [b4 _ fun a ha e => ?_, a4 u hu]
    · by_cases h0 : b = 0
      · rw [if_pos h0, if_pos h0]
      · have hdb := (hdm h0).2
        rw [if_neg h0, if_neg h0, c4 _ (by omega), hz2 _ (by omega)]
    · obtain ⟨u', u1, u2⟩ := hva a ha
      rw [w19, u2, pu_nn (by omega)] at e
      exact hno a ha (by rw [u2, show u = u' by omega])
  · rw [k2']; exact c5
  · rw [k2']; exact c6
  · rw [k2']; exact c9
end FL
