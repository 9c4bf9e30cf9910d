/-! pure side, the machine 14: a micro step in code -/
section MC
variable {w P : ST} {f c b i N : Nat} {p9 : Int32} {e : pu_E} {m : pu_M} {q ar : List Int32} {t R : Nat} {n17 : Nat → Nat} {Cn : Nat → Nat → Nat} {Cw : Nat → ST}
theorem pm_c22 (h : pm_BX w f c b p9 (pu_I i) e m q ar t R) (hc : c < 8) (hf : f < 6) (hi : i < N) (hN2 : N ≤ Cn f 2) (hN4 : N ≤ Cn f 4) (hNN : N < 50000) {w1 w9 : ST} (ht : fX3_tick w 1 = some (1, w1)) (hw9 : w9 = upw w1 12 c (pu_I (i + 1))) (hk : Cw f 2 i = 22) :
    fX3_moveInCode n17 w Cn Cw P = some (upw w9 12 c (Cw f 4 i)) := by
  have h9 : w 0 9 - 1 = pu_I c := by rw [h.1.2.1]; exact pv_sub (b := 1) (by omega)
  have hcx : ixb (pu_I c) 8 = true := (pu_ix (by omega)).mpr hc
  have hcn : nn (pu_I c) = c := pu_nn (by omega)
  have hix : ∀ {k}, N ≤ k → ixb (pu_I i) k = true := fun h => (pu_ix (by omega)).mpr (by omega)
  unfold fX3_moveInCode
  simp only [lt9]
  rw [h9, if_pos hcx, hcn, h.1.2.2.2.1, if_pos ((pu_ix (by omega)).mpr hf), if_pos hcx, ht, Option.bind_some, if_neg (show ¬ (1 : Int32) = 0 by decide), if_pos hcx, pu_nn (show f < 2147483648 by omega), h.1.2.2.1, pu_su, ← hw9, if_pos (hix hN4), if_pos (hix hN2), pu_nn (show i < 2147483648 by omega)]
  rw [if_pos hk, if_pos hcx]
  rfl
theorem pm_c23 (h : pm_BX w f c b p9 (pu_I i) e m q ar t R) (hc : c < 8) (hf : f < 6) (hi : i < N) (hN2 : N ≤ Cn f 2) (hN4 : N ≤ Cn f 4) (hNN : N < 50000) {w1 w9 : ST} (ht : fX3_tick w 1 = some (1, w1)) (hw9 : w9 = upw w1 12 c (pu_I (i + 1))) (hk : Cw f 2 i = 23) (hN5 : N ≤ Cn f 5) (hx : ixb (pu_I c * 320 + Cw f 4 i) 2560 = true) :
    fX3_moveInCode n17 w Cn Cw P = (if w9 16 (nn (pu_I c * 320 + Cw f 4 i)) = 0 then some w9 else some (upw w9 12 c (Cw f 5 i))) := by
  have h9 : w 0 9 - 1 = pu_I c := by rw [h.1.2.1]; exact pv_sub (b := 1) (by omega)
  have hcx : ixb (pu_I c) 8 = true := (pu_ix (by omega)).mpr hc
  have hcn : nn (pu_I c) = c := pu_nn (by omega)
  have hix : ∀ {k}, N ≤ k → ixb (pu_I i) k = true := fun h => (pu_ix (by omega)).mpr (by omega)
  unfold fX3_moveInCode
  simp only [lt9]
  rw [h9, if_pos hcx, hcn, h.1.2.2.2.1, if_pos ((pu_ix (by omega)).mpr hf), if_pos hcx, ht, Option.bind_some, if_neg (show ¬ (1 : Int32) = 0 by decide), if_pos hcx, pu_nn (show f < 2147483648 by omega), h.1.2.2.1, pu_su, ← hw9, if_pos (hix hN4), if_pos (hix hN2), pu_nn (show i < 2147483648 by omega)]
  rw [if_neg (show ¬ Cw f 2 i = 22 by rw [hk]; decide), if_pos hk, if_pos hx, if_pos (hix hN5), if_pos hcx]
  rfl
theorem pm_c28 (h : pm_BX w f c b p9 (pu_I i) e m q ar t R) (hc : c < 8) (hf : f < 6) (hi : i < N) (hN2 : N ≤ Cn f 2) (hN4 : N ≤ Cn f 4) (hNN : N < 50000) {w1 w9 : ST} (ht : fX3_tick w 1 = some (1, w1)) (hw9 : w9 = upw w1 12 c (pu_I (i + 1))) (hk : Cw f 2 i = 28) (hN5 : N ≤ Cn f 5) (hx : ixb (pu_I c * 320 + Cw f 4 i) 2560 = true) :
    fX3_moveInCode n17 w Cn Cw P = (if w9 16 (nn (pu_I c * 320 + Cw f 4 i)) = 0 then some (upw w9 12 c (Cw f 5 i)) else some w9) := by
  have h9 : w 0 9 - 1 = pu_I c := by rw [h.1.2.1]; exact pv_sub (b := 1) (by omega)
  have hcx : ixb (pu_I c) 8 = true := (pu_ix (by omega)).mpr hc
  have hcn : nn (pu_I c) = c := pu_nn (by omega)
  have hix : ∀ {k}, N ≤ k → ixb (pu_I i) k = true := fun h => (pu_ix (by omega)).mpr (by omega)
  unfold fX3_moveInCode
  simp only [lt9]
  rw [h9, if_pos hcx, hcn, h.1.2.2.2.1, if_pos ((pu_ix (by omega)).mpr hf), if_pos hcx, ht, Option.bind_some, if_neg (show ¬ (1 : Int32) = 0 by decide), if_pos hcx, pu_nn (show f < 2147483648 by omega), h.1.2.2.1, pu_su, ← hw9, if_pos (hix hN4), if_pos (hix hN2), pu_nn (show i < 2147483648 by omega)]
  rw [if_neg (show ¬ Cw f 2 i = 22 by rw [hk]; decide), if_neg (show ¬ Cw f 2 i = 23 by rw [hk]; decide), if_neg (show ¬ Cw f 2 i = 24 by rw [hk]; decide), if_neg (show ¬ Cw f 2 i = 25 by rw [hk]; decide), if_neg (show ¬ Cw f 2 i = 26 by rw [hk]; decide), if_neg (show ¬ Cw f 2 i = 27 by rw [hk]; decide), if_pos hk, if_pos hx, if_pos (hix hN5), if_pos hcx]
  rfl
theorem pm_c25 (h : pm_BX w f c b p9 (pu_I i) e m q ar t R) (hc : c < 8) (hf : f < 6) (hi : i < N) (hN2 : N ≤ Cn f 2) (hN4 : N ≤ Cn f 4) (hNN : N < 50000) {w1 w9 : ST} (ht : fX3_tick w 1 = some (1, w1)) (hw9 : w9 = upw w1 12 c (pu_I (i + 1))) (hk : Cw f 2 i = 25) (hN3 : N ≤ Cn f 3) (hx : ixb (pu_I c * 320 + Cw f 4 i) 2560 = true) (hy : ixb (pu_I c * 320 + Cw f 3 i) 2560 = true) :
    fX3_moveInCode n17 w Cn Cw P = some (upw w9 16 (nn (pu_I c * 320 + Cw f 3 i)) (w9 16 (nn (pu_I c * 320 + Cw f 4 i)))) := by
  have h9 : w 0 9 - 1 = pu_I c := by rw [h.1.2.1]; exact pv_sub (b := 1) (by omega)
  have hcx : ixb (pu_I c) 8 = true := (pu_ix (by omega)).mpr hc
  have hcn : nn (pu_I c) = c := pu_nn (by omega)
  have hix : ∀ {k}, N ≤ k → ixb (pu_I i) k = true := fun h => (pu_ix (by omega)).mpr (by omega)
  unfold fX3_moveInCode
  simp only [lt9]
  rw [h9, if_pos hcx, hcn, h.1.2.2.2.1, if_pos ((pu_ix (by omega)).mpr hf), if_pos hcx, ht, Option.bind_some, if_neg (show ¬ (1 : Int32) = 0 by decide), if_pos hcx, pu_nn (show f < 2147483648 by omega), h.1.2.2.1, pu_su, ← hw9, if_pos (hix hN4), if_pos (hix hN2), pu_nn (show i < 2147483648 by omega)]
  rw [if_neg (show ¬ Cw f 2 i = 22 by rw [hk]; decide), if_neg (show ¬ Cw f 2 i = 23 by rw [hk]; decide), if_neg (show ¬ Cw f 2 i = 24 by rw [hk]; decide), if_pos hk, if_pos (hix hN3), if_pos hx, if_pos hy]
  rfl
theorem pm_c26 (h : pm_BX w f c b p9 (pu_I i) e m q ar t R) (hc : c < 8) (hf : f < 6) (hi : i < N) (hN2 : N ≤ Cn f 2) (hN4 : N ≤ Cn f 4) (hNN : N < 50000) {w1 w9 : ST} (ht : fX3_tick w 1 = some (1, w1)) (hw9 : w9 = upw w1 12 c (pu_I (i + 1))) (hk : Cw f 2 i = 26) (hN3 : N ≤ Cn f 3) (hx : ixb (pu_I c * w9 0 17 + Cw f 4 i) (n17 17) = true) (hy : ixb (pu_I c * 320 + Cw f 3 i) 2560 = true) :
    fX3_moveInCode n17 w Cn Cw P = some (upw w9 16 (nn (pu_I c * 320 + Cw f 3 i)) (w9 17 (nn (pu_I c * w9 0 17 + Cw f 4 i)))) := by
  have h9 : w 0 9 - 1 = pu_I c := by rw [h.1.2.1]; exact pv_sub (b := 1) (by omega)
  have hcx : ixb (pu_I c) 8 = true := (pu_ix (by omega)).mpr hc
  have hcn : nn (pu_I c) = c := pu_nn (by omega)
  have hix : ∀ {k}, N ≤ k → ixb (pu_I i) k = true := fun h => (pu_ix (by omega)).mpr (by omega)
  unfold fX3_moveInCode
  simp only [lt9]
  rw [h9, if_pos hcx, hcn, h.1.2.2.2.1, if_pos ((pu_ix (by omega)).mpr hf), if_pos hcx, ht, Option.bind_some, if_neg (show ¬ (1 : Int32) = 0 by decide), if_pos hcx, pu_nn (show f < 2147483648 by omega), h.1.2.2.1, pu_su, ← hw9, if_pos (hix hN4), if_pos (hix hN2), pu_nn (show i < 2147483648 by omega)]
  rw [if_neg (show ¬ Cw f 2 i = 22 by rw [hk]; decide), if_neg (show ¬ Cw f 2 i = 23 by rw [hk]; decide), if_neg (show ¬ Cw f 2 i = 24 by rw [hk]; decide), if_neg (show ¬ Cw f 2 i = 25 by rw [hk]; decide), if_pos hk, if_pos (hix hN3), if_pos hx, if_pos hy]
  rfl
theorem pm_c27 (h : pm_BX w f c b p9 (pu_I i) e m q ar t R) (hc : c < 8) (hf : f < 6) (hi : i < N) (hN2 : N ≤ Cn f 2) (hN4 : N ≤ Cn f 4) (hNN : N < 50000) {w1 w9 : ST} (ht : fX3_tick w 1 = some (1, w1)) (hw9 : w9 = upw w1 12 c (pu_I (i + 1))) (hk : Cw f 2 i = 27) (hN5 : N ≤ Cn f 5) (hx : ixb (pu_I c * 320 + Cw f 4 i) 2560 = true) (hy : ixb (pu_I c * w9 0 17 + Cw f 5 i) (n17 17) = true) :
    fX3_moveInCode n17 w Cn Cw P = some (upw w9 17 (nn (pu_I c * w9 0 17 + Cw f 5 i)) (w9 16 (nn (pu_I c * 320 + Cw f 4 i)))) := by
  have h9 : w 0 9 - 1 = pu_I c := by rw [h.1.2.1]; exact pv_sub (b := 1) (by omega)
  have hcx : ixb (pu_I c) 8 = true := (pu_ix (by omega)).mpr hc
  have hcn : nn (pu_I c) = c := pu_nn (by omega)
  have hix : ∀ {k}, N ≤ k → ixb (pu_I i) k = true := fun h => (pu_ix (by omega)).mpr (by omega)
  unfold fX3_moveInCode
  simp only [lt9]
  rw [h9, if_pos hcx, hcn, h.1.2.2.2.1, if_pos ((pu_ix (by omega)).mpr hf), if_pos hcx, ht, Option.bind_some, if_neg (show ¬ (1 : Int32) = 0 by decide), if_pos hcx, pu_nn (show f < 2147483648 by omega), h.1.2.2.1, pu_su, ← hw9, if_pos (hix hN4), if_pos (hix hN2), pu_nn (show i < 2147483648 by omega)]
  rw [if_neg (show ¬ Cw f 2 i = 22 by rw [hk]; decide), if_neg (show ¬ Cw f 2 i = 23 by rw [hk]; decide), if_neg (show ¬ Cw f 2 i = 24 by rw [hk]; decide), if_neg (show ¬ Cw f 2 i = 25 by rw [hk]; decide), if_neg (show ¬ Cw f 2 i = 26 by rw [hk]; decide), if_pos hk, if_pos (hix hN5), if_pos hx, if_pos hy]
  rfl
theorem pm_cel (h : pm_BX w f c b p9 (pu_I i) e m q ar t R) (hc : c < 8) (hf : f < 6) (hi : i < N) (hN2 : N ≤ Cn f 2) (hN4 : N ≤ Cn f 4) (hNN : N < 50000) {w1 w9 : ST} (ht : fX3_tick w 1 = some (1, w1)) (hw9 : w9 = upw w1 12 c (pu_I (i + 1))) (hk : pu_gk (Cw f 2 i) = true ∨ Cw f 2 i = 18 ∨ Cw f 2 i = 19) :
    fX3_moveInCode n17 w Cn Cw P = (if Cw f 2 i = 20 then fX3_enter n17 w9 2 (Cw f 4 i) P else fX3_moveStep n17 w9 (Cn f) (Cw f) (pu_I c) (pu_I i) P) := by
  have h9 : w 0 9 - 1 = pu_I c := by rw [h.1.2.1]; exact pv_sub (b := 1) (by omega)
  have hcx : ixb (pu_I c) 8 = true := (pu_ix (by omega)).mpr hc
  have hcn : nn (pu_I c) = c := pu_nn (by omega)
  have hix : ∀ {k}, N ≤ k → ixb (pu_I i) k = true := fun h => (pu_ix (by omega)).mpr (by omega)
  unfold fX3_moveInCode
  simp only [lt9]
  rw [h9, if_pos hcx, hcn, h.1.2.2.2.1, if_pos ((pu_ix (by omega)).mpr hf), if_pos hcx, ht, Option.bind_some, if_neg (show ¬ (1 : Int32) = 0 by decide), if_pos hcx, pu_nn (show f < 2147483648 by omega), h.1.2.2.1, pu_su, ← hw9, if_pos (hix hN4), if_pos (hix hN2), pu_nn (show i < 2147483648 by omega)]
  have hne : ∀ k, (k = 22 ∨ k = 23 ∨ k = 24 ∨ k = 25 ∨ k = 26 ∨ k = 27 ∨ k = 28) → ¬ Cw f 2 i = k := fun k hk9 h9 => by
    rw [h9] at hk
    rcases hk9 with h | h | h | h | h | h | h <;> rw [h] at hk <;> revert hk <;> decide
  rw [if_neg (hne 22 (by decide)), if_neg (hne 23 (by decide)), if_neg (hne 24 (by decide)), if_neg (hne 25 (by decide)), if_neg (hne 26 (by decide)), if_neg (hne 27 (by decide)), if_neg (hne 28 (by decide))]
  have hml : fX3_moveLine n17 w9 (Cn f) (Cw f) (pu_I c) (pu_I i) P = (if Cw f 2 i = 20 then fX3_enter n17 w9 2 (Cw f 4 i) P else fX3_moveStep n17 w9 (Cn f) (Cw f) (pu_I c) (pu_I i) P) := by
    unfold fX3_moveLine
    rw [if_pos (hix hN2), pu_nn (show i < 2147483648 by omega)]
    by_cases h20 : Cw f 2 i = 20
    · rw [if_pos h20, if_pos h20, if_pos (hix hN4)]
      exact pm_bs _
    · rw [if_neg h20, if_neg h20]
      exact pm_bs _
  rw [hml]
  exact pm_bs _
theorem pm_c24 (h : pm_BX w f c b p9 (pu_I i) e m q ar t R) (hc : c < 8) (hf : f < 6) (hi : i < N) (hN2 : N ≤ Cn f 2) (hN4 : N ≤ Cn f 4) (hNN : N < 50000) {w1 w9 : ST} (ht : fX3_tick w 1 = some (1, w1)) (hw9 : w9 = upw w1 12 c (pu_I (i + 1))) (hk : Cw f 2 i = 24) (hx : ixb (pu_I c * 320 + Cw f 4 i) 2560 = true) (h99 : w9 0 9 = pu_I (c + 1)) (hc0 : c = 0) :
    fX3_moveInCode n17 w Cn Cw P = some (upw (upw (upw (upw w9 0 9 0) 0 0 0) 0 8 0) 0 1 (w9 16 (nn (pu_I c * 320 + Cw f 4 i)))) := by
  have h9 : w 0 9 - 1 = pu_I c := by rw [h.1.2.1]; exact pv_sub (b := 1) (by omega)
  have hcx : ixb (pu_I c) 8 = true := (pu_ix (by omega)).mpr hc
  have hcn : nn (pu_I c) = c := pu_nn (by omega)
  have hix : ∀ {k}, N ≤ k → ixb (pu_I i) k = true := fun h => (pu_ix (by omega)).mpr (by omega)
  unfold fX3_moveInCode
  simp only [lt9]
  rw [h9, if_pos hcx, hcn, h.1.2.2.2.1, if_pos ((pu_ix (by omega)).mpr hf), if_pos hcx, ht, Option.bind_some, if_neg (show ¬ (1 : Int32) = 0 by decide), if_pos hcx, pu_nn (show f < 2147483648 by omega), h.1.2.2.1, pu_su, ← hw9, if_pos (hix hN4), if_pos (hix hN2), pu_nn (show i < 2147483648 by omega)]
  have hcl := pm_close h99 hc (w9 16 (nn (pu_I c * 320 + Cw f 4 i)))
  rw [if_pos hc0] at hcl
  rw [if_neg (show ¬ Cw f 2 i = 22 by rw [hk]; decide), if_neg (show ¬ Cw f 2 i = 23 by rw [hk]; decide), if_pos hk, if_pos hx, hcl]
  rfl
theorem pm_c24r (h : pm_BX w f c b p9 (pu_I i) e m q ar t R) (hc : c < 8) (hf : f < 6) (hi : i < N) (hN2 : N ≤ Cn f 2) (hN4 : N ≤ Cn f 4) (hNN : N < 50000) {w1 w9 : ST} (ht : fX3_tick w 1 = some (1, w1)) (hw9 : w9 = upw w1 12 c (pu_I (i + 1))) (hk : Cw f 2 i = 24) (hx : ixb (pu_I c * 320 + Cw f 4 i) 2560 = true) (h99 : w9 0 9 = pu_I (c + 1)) {c' g i' : Nat} (hc' : c = c' + 1) (hg : g < 6) (h11 : w9 11 c' = pu_I g) (h12 : w9 12 c' = pu_I (i' + 1)) (hi' : i' < Cn g 3) (hi2 : i' < 50000) (hv : ixb (Cw g 3 i') 250 = true) :
    fX3_moveInCode n17 w Cn Cw P = some (upw (upw w9 0 9 (pu_I c)) 16 (c' * 320 + nn (Cw g 3 i')) (w9 16 (nn (pu_I c * 320 + Cw f 4 i)))) := by
  have h9 : w 0 9 - 1 = pu_I c := by rw [h.1.2.1]; exact pv_sub (b := 1) (by omega)
  have hcx : ixb (pu_I c) 8 = true := (pu_ix (by omega)).mpr hc
  have hcn : nn (pu_I c) = c := pu_nn (by omega)
  have hix : ∀ {k}, N ≤ k → ixb (pu_I i) k = true := fun h => (pu_ix (by omega)).mpr (by omega)
  unfold fX3_moveInCode
  simp only [lt9]
  rw [h9, if_pos hcx, hcn, h.1.2.2.2.1, if_pos ((pu_ix (by omega)).mpr hf), if_pos hcx, ht, Option.bind_some, if_neg (show ¬ (1 : Int32) = 0 by decide), if_pos hcx, pu_nn (show f < 2147483648 by omega), h.1.2.2.1, pu_su, ← hw9, if_pos (hix hN4), if_pos (hix hN2), pu_nn (show i < 2147483648 by omega)]
  have hcl := pm_close h99 hc (w9 16 (nn (pu_I c * 320 + Cw f 4 i)))
  rw [if_neg (show ¬ c = 0 by omega)] at hcl
  have h90 : upw w9 0 9 (pu_I c) 0 9 = pu_I c := by rw [pv_upw, if_pos ⟨rfl, rfl⟩]
  have hs : pu_I c - 1 = pu_I c' := by rw [hc']; exact pv_sub (b := 1) (by omega)
  have hs2 : pu_I (i' + 1) - 1 = pu_I i' := pv_sub (b := 1) (by omega)
  obtain ⟨v0, v1⟩ := pv_ixn hv
  have hm : pu_I c' * 320 + Cw g 3 i' = pu_I (c' * 320 + nn (Cw g 3 i')) := by
    conv => lhs; rw [pu_of v0, show (320 : Int32) = pu_I 320 from rfl, pv_mul, pv_add]
  rw [if_neg (show ¬ Cw f 2 i = 22 by rw [hk]; decide), if_neg (show ¬ Cw f 2 i = 23 by rw [hk]; decide), if_pos hk, if_pos hx, hcl, Option.bind_some, if_neg (show ¬ (1 : Int32) = 0 by decide)]
  have k1 : nn (pu_I c') = c' := pu_nn (by omega)
  have k2 : ixb (pu_I c') 8 = true := (pu_ix (by omega)).mpr (by omega)
  have k3 : upw w9 0 9 (pu_I c) 11 c' = pu_I g := by rw [pv_upw_n (show (11 : Nat) ≠ 0 by decide)]; exact h11
  have k4 : ixb (pu_I g) 6 = true := (pu_ix (by omega)).mpr hg
  have k5 : nn (pu_I g) = g := pu_nn (by omega)
  have k6 : upw w9 0 9 (pu_I c) 12 c' = pu_I (i' + 1) := by rw [pv_upw_n (show (12 : Nat) ≠ 0 by decide)]; exact h12
  have k7 : ixb (pu_I i') (Cn g 3) = true := (pu_ix (by omega)).mpr hi'
  have k8 : nn (pu_I i') = i' := pu_nn (by omega)
  have k9 : ixb (pu_I (c' * 320 + nn (Cw g 3 i'))) 2560 = true := (pu_ix (by omega)).mpr (by omega)
  have k10 : nn (pu_I (c' * 320 + nn (Cw g 3 i'))) = c' * 320 + nn (Cw g 3 i') := pu_nn (by omega)
  simp only [h90, hs, k1, k2, k3, k4, k5, k6, hs2, k7, k8, hm, k9, k10, if_true]
  rfl
end MC
