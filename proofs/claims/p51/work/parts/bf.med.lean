/-! pure side, the machine 9: a micro step in blocks, a block's end, what a call gives back -/
section ED
variable {w : ST} {f c b : Nat} {p9 at0 : Int32} {e : pu_E} {m : pu_M} {q ar : List Int32} {t R : Nat}
  {n17 : Nat → Nat} {Ns N2 : Nat → Nat → Nat} {W W2 : Nat → ST} {P : ST}
theorem pm_mv0 (h : pm_BX w f c b p9 at0 e m q ar t R) (hc : c < 8) (hf : f < 6) : fX3_moveInBlocks n17 w Ns W N2 W2 P = (if at0 = (-2) then ((fX3_enterBlock w (Ns f) (W f) (pu_I c)).bind fun (o_6 : ST) => (fX3_moveInBlocks_J88 o_6)) else ((fX3_tick w 1).bind fun (o_7 : Int32 × ST) => (if (o_7.1) = 0 then some (o_7.2) else (if 0 ≤ at0 then (if ixb at0 ((N2 f) 6) = true then ((fX3_moveStep n17 (upw (o_7.2) 12 c (((W2 f) 6) (nn at0))) (N2 f) (W2 f) (pu_I c) at0 P).bind fun (o_14 : ST) => (fX3_moveInBlocks_J88 o_14)) else none) else ((fX3_endBlock_a1_F_p0_5 (o_7.2) f (pu_I c) W N2 W2).bind fun (o_15 : ST) => (fX3_moveInBlocks_J88 o_15)))))) := by
  have h9 : w 0 9 - 1 = pu_I c := by rw [h.1.2.1]; exact pv_sub (b := 1) (by omega)
  have hcx : ixb (pu_I c) 8 = true := (pu_ix (by omega)).mpr hc
  have hcn : nn (pu_I c) = c := pu_nn (by omega)
  unfold fX3_moveInBlocks
  simp only [lt9]
  rw [h9, if_pos hcx, hcn, h.1.2.2.2.1, if_pos ((pu_ix (by omega)).mpr hf), if_pos hcx, pu_nn (show f < 2147483648 by omega), h.1.2.2.1]
  simp only [hcx, if_true]
theorem pm_mvE (h : pm_BX w f c b p9 (-2) e m q ar t R) (hc : c < 8) (hf : f < 6) : fX3_moveInBlocks n17 w Ns W N2 W2 P = fX3_enterBlock w (Ns f) (W f) (pu_I c) := by
  rw [pm_mv0 h hc hf, if_pos rfl]
  exact pm_bs _
theorem pm_mvS {a : Nat} (h : pm_BX w f c b p9 (pu_I a) e m q ar t R) (hc : c < 8) (hf : f < 6) (ha : a < N2 f 6) (ha2 : a < 50000) {w' : ST} (ht : fX3_tick w 1 = some (1, w')) : fX3_moveInBlocks n17 w Ns W N2 W2 P = fX3_moveStep n17 (upw w' 12 c (W2 f 6 a)) (N2 f) (W2 f) (pu_I c) (pu_I a) P := by
  have hn2 : ¬ pu_I a = (-2 : Int32) := fun h9 => pu_ge (k := a) (by omega) (by rw [h9]; decide)
  rw [pm_mv0 h hc hf, if_neg hn2, ht, Option.bind_some, if_neg (show ¬ (1 : Int32) = 0 by decide), if_pos (show (0 : Int32) ≤ pu_I a from (pu_le (a := 0) (by decide) (by omega)).mpr (Nat.zero_le a)), if_pos ((pu_ix (by omega)).mpr ha), pu_nn (by omega)]
  exact pm_bs _
theorem pm_mvX (h : pm_BX w f c b p9 (-1) e m q ar t R) (hc : c < 8) (hf : f < 6) {w' : ST} (ht : fX3_tick w 1 = some (1, w')) : fX3_moveInBlocks n17 w Ns W N2 W2 P = fX3_endBlock_a1_F_p0_5 w' f (pu_I c) W N2 W2 := by
  rw [pm_mv0 h hc hf, if_neg (show ¬ (-1 : Int32) = -2 by decide), ht, Option.bind_some, if_neg (show ¬ (1 : Int32) = 0 by decide), if_neg (show ¬ (0 : Int32) ≤ -1 by decide)]
  exact pm_bs _
theorem pm_mvT (h : pm_BX w f c b p9 at0 e m q ar t R) (hc : c < 8) (hf : f < 6) (hat : at0 ≠ -2) {w' : ST} (ht : fX3_tick w 1 = some (0, w')) : fX3_moveInBlocks n17 w Ns W N2 W2 P = some w' := by
  rw [pm_mv0 h hc hf, if_neg hat, ht, Option.bind_some]
  exact if_pos rfl
/-- the value at a block's end -/
theorem pm_ed0 (h : pm_BX w f c b p9 at0 e m q ar t R) (hc : c < 8) (hb : b < 60) (hv : ¬ W f 9 b < 0 → ixb (W f 9 b) 250 = true) : ∃ y, (¬ W f 9 b < 0 → y = e (W f 9 b)) ∧ fX3_endBlock_a1_F_p0_5 w f (pu_I c) W N2 W2 = fX3_endBlock_a1_F_p0_5_J37 w f (pu_I c) W N2 W2 y := by
  have hcx : ixb (pu_I c) 8 = true := (pu_ix (by omega)).mpr hc
  have hcn : nn (pu_I c) = c := pu_nn (by omega)
  have hbx : ixb (pu_I b) 60 = true := (pu_ix (by omega)).mpr hb
  have hbn : nn (pu_I b) = b := pu_nn (by omega)
  unfold fX3_endBlock_a1_F_p0_5
  rw [if_pos hcx, hcn, h.1.2.2.2.2.1, if_pos hbx, hbn]
  by_cases h0 : W f 9 b < 0
  · refine ⟨0, fun h9 => absurd h0 h9, ?_⟩
    rw [if_neg (show ¬ (0 : Int32) ≤ W f 9 b from Int32.not_le.mpr h0)]
  · obtain ⟨c1, c2, c3⟩ := pm_bget h hc (hv h0)
    refine ⟨e (W f 9 b), fun _ => rfl, ?_⟩
    rw [if_pos (show (0 : Int32) ≤ W f 9 b from Int32.not_lt.mp h0), if_pos hbx, if_pos c1, c2]
/-- on to another block -/
theorem pm_edB (h : pm_BX w f c b p9 at0 e m q ar t R) (hc : c < 8) (hb : b < 60) {y : Int32} (h24 : W f 8 b ≠ 24) {c' : Nat} (hc' : (if W f 8 b = 23 ∧ y = 0 then W f 11 b else W f 10 b) = pu_I c') : ∃ w', fX3_endBlock_a1_F_p0_5_J37 w f (pu_I c) W N2 W2 y = some w' ∧ pm_fr c 0 R w w' ∧ pm_BX w' f c c' (pu_I b) (-2) e m q ar t R := by
  have hcx : ixb (pu_I c) 8 = true := (pu_ix (by omega)).mpr hc
  have hcn : nn (pu_I c) = c := pu_nn (by omega)
  have hbx : ixb (pu_I b) 60 = true := (pu_ix (by omega)).mpr hb
  have hbn : nn (pu_I b) = b := pu_nn (by omega)
  have h13 := h.1.2.2.2.2.1
  obtain ⟨w1, hw1⟩ : ∃ w1, w1 = upw (upw (upw w 14 c (pu_I b)) 13 c (pu_I c')) 12 c (-2) := ⟨_, rfl⟩
  refine ⟨w1, ?_, ?_, ?_⟩
  · have h137 : fX3_endBlock_a1_F_p0_5_J137 (pu_I c) (upw w 14 c (pu_I b)) (pu_I c') = some w1 := by
      unfold fX3_endBlock_a1_F_p0_5_J137
      rw [if_pos hcx, hcn]
      simp only [lt9]
      rw [if_pos hcx, hw1]
    have h103 : ∀ z, (if z = 0 then W f 10 b else W f 11 b) = pu_I c' → fX3_endBlock_a1_F_p0_5_J103 w f (pu_I c) W z = some w1 := fun z hz => by
      unfold fX3_endBlock_a1_F_p0_5_J103
      rw [if_pos hcx, hcn, h13]
      simp only [lt9]
      by_cases hz0 : z = 0
      · rw [if_pos hz0] at hz ⊢
        rw [if_pos hbx, hbn, hz]
        exact h137
      · rw [if_neg hz0] at hz ⊢
        rw [if_pos hbx, hbn, hz]
        exact h137
    unfold fX3_endBlock_a1_F_p0_5_J37
    rw [hcn, h13, if_pos hbx, hbn, if_neg h24, if_pos hbx]
    by_cases h23 : W f 8 b = 23
    · rw [if_pos h23]
      by_cases hy : y = 0
      · rw [if_pos ⟨h23, hy⟩] at hc'
        rw [if_pos hy]
        exact h103 1 (by rw [if_neg (by decide)]; exact hc')
      · rw [if_neg fun h => hy h.2] at hc'
        rw [if_neg hy]
        exact h103 0 (by rw [if_pos rfl]; exact hc')
    · rw [if_neg fun h => h23 h.1] at hc'
      rw [if_neg h23]
      exact h103 0 (by rw [if_pos rfl]; exact hc')
  · have er : ∀ r, r ≠ 12 → r ≠ 13 → r ≠ 14 → w1 r = w r := fun r r12 r13 r14 => by rw [hw1, pv_upw_n r12, pv_upw_n r13, pv_upw_n r14]
    refine ⟨fun r hr j hj => ?_, fun z hz => by rw [er 15 (by decide) (by decide) (by decide)], fun z hz => by rw [er 16 (by decide) (by decide) (by decide)], fun z hz => by rw [er 17 (by decide) (by decide) (by decide)], fun z hz => absurd hz (Nat.not_lt_zero z), by rw [er 0 (by decide) (by decide) (by decide)], er 8 (by decide) (by decide) (by decide)⟩
    rw [hw1, pv_upw, if_neg fun h => by omega, pv_upw, if_neg fun h => by omega, pv_upw, if_neg fun h => by omega]
  · obtain ⟨⟨h1, h2, h3, h4, h5, h6, h7, h8, h9, h10⟩, hq, hcl, hm, har⟩ := h
    have er : ∀ r, r ≠ 12 → r ≠ 13 → r ≠ 14 → w1 r = w r := fun r r12 r13 r14 => by rw [hw1, pv_upw_n r12, pv_upw_n r13, pv_upw_n r14]
    have e0 := er 0 (by decide) (by decide) (by decide)
    refine ⟨⟨by rw [e0]; exact h1, by rw [e0]; exact h2, ?_, by rw [er 11 (by decide) (by decide) (by decide)]; exact h4, ?_, ?_, by rw [e0]; exact h7, by rw [e0]; exact h8, by rw [e0]; exact h9, by rw [e0]; exact h10⟩, by rw [er 19 (by decide) (by decide) (by decide)]; exact hq, by rw [er 16 (by decide) (by decide) (by decide)]; exact hcl, by rw [er 4 (by decide) (by decide) (by decide)]; exact hm, by rw [er 15 (by decide) (by decide) (by decide)]; exact har⟩
    · rw [hw1, pv_upw, if_pos ⟨rfl, rfl⟩]
    · rw [hw1, pv_upw_n (by decide), pv_upw, if_pos ⟨rfl, rfl⟩]
    · rw [hw1, pv_upw_n (by decide), pv_upw_n (by decide), pv_upw, if_pos ⟨rfl, rfl⟩]
/-- a return -/
theorem pm_edR (h : pm_BX w f c b p9 at0 e m q ar t R) (hc : c < 8) (hb : b < 60) {y : Int32} (h24 : W f 8 b = 24) :
    (c = 0 ∧ fX3_endBlock_a1_F_p0_5_J37 w f (pu_I c) W N2 W2 y = some (upw (upw (upw (upw w 0 9 0) 0 0 0) 0 8 0) 0 1 y)) ∨
    (∃ c', c = c' + 1 ∧ ∀ g, g < 6 → w 11 c' = pu_I g → fX3_endBlock_a1_F_p0_5_J37 w f (pu_I c) W N2 W2 y = fX3_giveBack (upw w 0 9 (pu_I c)) (W g) y (N2 g) (W2 g)) := by
  have hcn : nn (pu_I c) = c := pu_nn (by omega)
  have hbx : ixb (pu_I b) 60 = true := (pu_ix (by omega)).mpr hb
  have hbn : nn (pu_I b) = b := pu_nn (by omega)
  have h13 := h.1.2.2.2.2.1
  have hcl := pm_close h.1.2.1 hc y
  by_cases h0 : c = 0
  · left
    rw [if_pos h0] at hcl
    refine ⟨h0, ?_⟩
    unfold fX3_endBlock_a1_F_p0_5_J37
    rw [hcn, h13, if_pos hbx, hbn, if_pos h24, hcl]
    rfl
  · right
    rw [if_neg h0] at hcl
    obtain ⟨c', rfl⟩ : ∃ c', c = c' + 1 := ⟨c - 1, by omega⟩
    refine ⟨c', rfl, fun g hg h11 => ?_⟩
    have hs : pu_I (c' + 1) - 1 = pu_I c' := pv_sub (b := 1) (by omega)
    have h9 : upw w 0 9 (pu_I (c' + 1)) 0 9 = pu_I (c' + 1) := by rw [pv_upw, if_pos ⟨rfl, rfl⟩]
    unfold fX3_endBlock_a1_F_p0_5_J37
    rw [hcn, h13, if_pos hbx, hbn, if_pos h24, hcl, Option.bind_some, if_neg (show ¬ (1 : Int32) = 0 by decide)]
    show (if ixb ((upw w 0 9 (pu_I (c' + 1))) 0 9 - 1) 8 = true then (if ixb ((upw w 0 9 (pu_I (c' + 1))) 11 (nn ((upw w 0 9 (pu_I (c' + 1))) 0 9 - 1))) 6 = true then (lt9 (nn ((upw w 0 9 (pu_I (c' + 1))) 11 (nn ((upw w 0 9 (pu_I (c' + 1))) 0 9 - 1)))) fun (i10 : Nat) => ((fX3_giveBack (upw w 0 9 (pu_I (c' + 1))) (W i10) y (N2 i10) (W2 i10)).bind fun (o_11 : ST) => (fX3_endBlock_a1_F_p0_5_J81 o_11))) else none) else none) = _
    rw [h9, hs, if_pos ((pu_ix (by omega)).mpr (by omega)), pu_nn (show c' < 2147483648 by omega), pv_upw_n (show (11 : Nat) ≠ 0 by decide), h11, if_pos ((pu_ix (by omega)).mpr hg)]
    simp only [lt9]
    rw [pu_nn (show g < 2147483648 by omega)]
    exact pm_bs _
/-- the step that called -/
theorem pm_gb23 {n2 : Nat → Nat} {x9 w9 : ST} {a N : Nat} {l2 : List Nat} (h9 : w9 0 9 = pu_I (c + 1)) (hc : c < 8) (hat : w9 12 c = x9 6 a) (hN : N ≤ n2 6) (hN2 : N < 50000) : ∀ (l1 : List Nat) (k : Nat) (v4 x : Int32), pv_ch (x9 6) x (l1 ++ a :: l2) → (l1 ++ a :: l2).Nodup → (∀ z ∈ l1 ++ a :: l2, z < N) → l1.length + 1 < k → fX3_giveBack_L23 w9 n2 x9 k v4 x = some (pu_I a) := by
  have hs : w9 0 9 - 1 = pu_I c := by rw [h9]; exact pv_sub (b := 1) (by omega)
  have hcx : ixb (pu_I c) 8 = true := (pu_ix (by omega)).mpr hc
  have hcn : nn (pu_I c) = c := pu_nn (by omega)
  have hL : ∀ k v4 x, fX3_giveBack_L23 w9 n2 x9 (k + 1) v4 x = (if x < 0 then some v4 else (if x = x9 6 a then some v4 else (if ixb x (n2 6) = true then fX3_giveBack_L23 w9 n2 x9 k x (x9 6 (nn x)) else none))) := fun k v4 x => by
    show (if x < 0 then some v4 else (if ixb ((w9 0 9) - 1) 8 = true then (if x = (w9 12 (nn ((w9 0 9) - 1))) then some v4 else (if ixb x (n2 6) = true then ((fX3_giveBack_L23 w9 n2 x9 k) x (x9 6 (nn x))) else none)) else none)) = _
    rw [hs, if_pos hcx, hcn, hat]
  have hne : ∀ y, (∀ z, z ∈ l2 → z ≠ y ∧ z < N) → y < N → pv_ch (x9 6) (x9 6 a) l2 → pu_I y ≠ x9 6 a := fun y hy hyN hch e => by
    cases l2 with
    | nil => rw [show x9 6 a = -1 from hch] at e; exact pu_ge (k := y) (by omega) (by rw [e]; decide)
    | cons z l =>
      rw [hch.1] at e
      obtain ⟨z1, z2⟩ := hy z List.mem_cons_self
      exact z1 (pu_inj (by omega) (by omega) e.symm)
  intro l1
  induction l1 with
  | nil =>
    intro k v4 x hch hnd hlt hk
    obtain ⟨k', rfl⟩ : ∃ k', k = k' + 2 := ⟨k - 2, by have : 0 + 1 < k := hk; omega⟩
    obtain ⟨rfl, hch⟩ := hch
    have haN := hlt a List.mem_cons_self
    rw [hL, if_neg (pu_ge (by omega)), if_neg (hne a (fun z hz => ⟨fun e => (List.nodup_cons.mp hnd).1 (e ▸ hz), hlt z (List.mem_cons_of_mem _ hz)⟩) haN hch), if_pos ((pu_ix (by omega)).mpr (by omega)), pu_nn (by omega), hL]
    by_cases h0 : x9 6 a < 0
    · rw [if_pos h0]
    · rw [if_neg h0, if_pos rfl]
  | cons y l1 ih =>
    intro k v4 x hch hnd hlt hk
    have hk : l1.length + 1 + 1 < k := hk
    obtain ⟨k', rfl⟩ : ∃ k', k = k' + 1 := ⟨k - 1, by omega⟩
    obtain ⟨rfl, hch⟩ := hch
    have hyN := hlt y List.mem_cons_self
    have hch2 : ∀ (l : List Nat) (x : Int32), pv_ch (x9 6) x (l ++ a :: l2) → pv_ch (x9 6) (x9 6 a) l2 := by
      intro l
      induction l with
      | nil => intro x h; exact h.2
      | cons z l ihl => intro x h; exact ihl _ h.2
    rw [hL, if_neg (pu_ge (by omega)), if_neg (hne y (fun z hz => ⟨fun e => (List.nodup_cons.mp hnd).1 (e ▸ List.mem_append_right _ (List.mem_cons_of_mem _ hz)), hlt z (List.mem_cons_of_mem _ (List.mem_append_right _ (List.mem_cons_of_mem _ hz)))⟩) hyN (hch2 l1 _ hch)), if_pos ((pu_ix (by omega)).mpr (by omega)), pu_nn (by omega)]
    exact ih k' _ _ hch (List.nodup_cons.mp hnd).2 (fun z hz => hlt z (List.mem_cons_of_mem _ hz)) (by omega)
/-- what a call gives back -/
theorem pm_gb {n2 : Nat → Nat} {x9 w9 fw : ST} {a N : Nat} {l1 l2 : List Nat} {y : Int32} (h9 : w9 0 9 = pu_I (c + 1)) (hc : c < 8) (h13 : w9 13 c = pu_I b) (hb : b < 60) (hat : w9 12 c = x9 6 a) (hN : N ≤ n2 6) (hN3 : N ≤ n2 3) (hN2 : N < 50000) (hch : pv_ch (x9 6) (fw 4 b) (l1 ++ a :: l2)) (hnd : (l1 ++ a :: l2).Nodup) (hlt : ∀ z ∈ l1 ++ a :: l2, z < N) (hv : ixb (x9 3 a) 250 = true) :
    fX3_giveBack w9 fw y n2 x9 = some (upw w9 16 (c * 320 + nn (x9 3 a)) y) := by
  have hs : w9 0 9 - 1 = pu_I c := by rw [h9]; exact pv_sub (b := 1) (by omega)
  have hcx : ixb (pu_I c) 8 = true := (pu_ix (by omega)).mpr hc
  have hcn : nn (pu_I c) = c := pu_nn (by omega)
  have haN := hlt a (List.mem_append_right _ List.mem_cons_self)
  have hlen := pv_len N _ hnd hlt
  rw [List.length_append, List.length_cons] at hlen
  have h23 := pm_gb23 h9 hc hat hN hN2 l1 NF (-1) (fw 4 b) hch hnd hlt (by have := pv_NF; omega)
  obtain ⟨v0, v1⟩ := pv_ixn hv
  have hm : pu_I c * 320 + x9 3 a = pu_I (c * 320 + nn (x9 3 a)) := by
    conv => lhs; rw [pu_of v0, show (320 : Int32) = pu_I 320 from rfl, pv_mul, pv_add]
  unfold fX3_giveBack
  rw [hs, if_pos hcx, hcn, h13, if_pos ((pu_ix (by omega)).mpr hb), pu_nn (show b < 2147483648 by omega), h23, Option.bind_some, if_neg (pu_ge (by omega)), if_pos ((pu_ix (by omega)).mpr (by omega)), pu_nn (show a < 2147483648 by omega), hm, if_pos ((pu_ix (by omega)).mpr (by omega)), pu_nn (by omega)]
  rfl
end ED
