/-! pure side: numbers appended -/
section SBI
theorem sb_ng {a : Nat} (ha : a < 1000000) : (-(pu_I a) : Int32).toInt = -(a : Int) := by
  rw [Int32.toInt_neg, pu_ti (by omega)]
  show Int.bmod (-(a : Int)) 4294967296 = _
  exact Int.bmod_eq_of_le (by omega) (by omega)
theorem sb_nl {a : Nat} (ha : a < 1000000) {c : Int32} {k : Int} (hc : c.toInt = -k) : -(pu_I a) ≤ c ↔ k ≤ a := by
  rw [Int32.le_iff_toInt_le, sb_ng ha, hc]
  omega
theorem sb_nr {a : Nat} (ha : a < 1000000) {c : Int32} {k : Int} (hc : c.toInt = -k) : c < -(pu_I a) ↔ (a : Int) < k := by
  rw [Int32.lt_iff_toInt_lt, sb_ng ha, hc]
  omega
theorem sb_nk {a : Nat} (ha : a < 1000000) {c : Int32} {k : Int} (hc : c.toInt = -k) : c ≤ -(pu_I a) ↔ (a : Int) ≤ k := by
  rw [Int32.le_iff_toInt_le, sb_ng ha, hc]
  omega
theorem sb_L {x p i : Int32} {k : Nat} (h10 : ¬ (10 : Int32) ≤ i) : fJ6_stringSize_0f7a4_L16 x 0 (k + 1) p i = if x ≤ p then fJ6_stringSize_0f7a4_L16 x 0 k (10 * p) (i + 1) else some (Sum.inl (i + 0)) := by
  show (if (10 : Int32) ≤ i then some (Sum.inr ()) else (if x ≤ p then fJ6_stringSize_0f7a4_L16 x 0 k (10 * p) (i + 1) else some (Sum.inl (i + 0)))) = _
  rw [if_neg h10]
theorem sb_sz {v : Nat} (hv : v < 5000) : fJ6_stringSize_0f7a4 (pu_I v) = some (pu_I (mp_d v).length) := by
  unfold fJ6_stringSize_0f7a4 fJ6_stringSize_0f7a4_J11
  have hNF : NF = 4194300 + 1 + 1 + 1 + 1 := rfl
  rw [if_neg (pu_ge (by omega)), hNF, sb_L (by decide)]
  have e1 := sb_nl (a := v) (by omega) (c := -10) (k := 10) rfl
  have e2 := sb_nl (a := v) (by omega) (c := 10 * -10) (k := 100) rfl
  have e3 := sb_nl (a := v) (by omega) (c := 10 * (10 * -10)) (k := 1000) rfl
  have e4 := sb_nl (a := v) (by omega) (c := 10 * (10 * (10 * -10))) (k := 10000) rfl
  unfold mp_d
  by_cases c1 : v < 10
  · have n1 : ¬ -(pu_I v) ≤ -10 := fun q => by have := e1.mp q; omega
    rw [if_neg n1, if_pos c1]
    rfl
  have p1 : -(pu_I v) ≤ -10 := e1.mpr (by omega)
  rw [if_pos p1, sb_L (by decide), if_neg c1]
  by_cases c2 : v < 100
  · have n2 : ¬ -(pu_I v) ≤ 10 * -10 := fun q => by have := e2.mp q; omega
    rw [if_neg n2, if_pos c2]
    rfl
  have p2 : -(pu_I v) ≤ 10 * -10 := e2.mpr (by omega)
  rw [if_pos p2, sb_L (by decide), if_neg c2]
  by_cases c3 : v < 1000
  · have n3 : ¬ -(pu_I v) ≤ 10 * (10 * -10) := fun q => by have := e3.mp q; omega
    rw [if_neg n3, if_pos c3]
    rfl
  have p3 : -(pu_I v) ≤ 10 * (10 * -10) := e3.mpr (by omega)
  have n4 : ¬ -(pu_I v) ≤ 10 * (10 * (10 * -10)) := fun q => by have := e4.mp q; omega
  rw [if_pos p3, sb_L (by decide), if_neg c3, if_neg n4]
  rfl
theorem sb_dO : ∀ u : Fin 100, vp_nar .byte (dgO u.val) = pu_I (48 + u.val % 10) ∧ vp_nar .byte (dgT u.val) = pu_I (48 + u.val / 10) := by decide +kernel
theorem sb_ix {u : Nat} (hu : u < 100) : ixb (pu_I u) 100 = true := (pu_ix (by omega)).mpr hu
/-- the last two figures -/
theorem sb_g2 {u c N : Nat} {f : RI} (hu : u < 100) (hN : c + 2 ≤ 100000) (hN2 : c + (if u < 10 then 1 else 2) ≤ N) :
    (if ixb (-(-(pu_I u))) 100 = true then (if ixb (pu_I (c + (if u < 10 then 1 else 2)) + (-1)) N = true then (lt9 (upd f (nn (pu_I (c + (if u < 10 then 1 else 2)) + (-1))) (vp_nar .byte (dgO (nn (-(-(pu_I u))))))) fun (f11 : RI) => (if (-9) ≤ -(pu_I u) then (fJ6_getChars_ba4f3_J104 N 0 (pu_I (c + (if u < 10 then 1 else 2)) + (-1)) f11) else (if ixb (-(-(pu_I u))) 100 = true then (if ixb ((pu_I (c + (if u < 10 then 1 else 2)) + (-1)) + (-1)) N = true then (lt9 (upd f11 (nn ((pu_I (c + (if u < 10 then 1 else 2)) + (-1)) + (-1))) (vp_nar .byte (dgT (nn (-(-(pu_I u))))))) fun (f18 : RI) => (fJ6_getChars_ba4f3_J104 N 0 ((pu_I (c + (if u < 10 then 1 else 2)) + (-1)) + (-1)) f18)) else none) else none))) else none) else none) = some (pu_I c, if u < 10 then upd f c (pu_I (48 + u)) else upd (upd f (c + 1) (pu_I (48 + u % 10))) c (pu_I (48 + u / 10))) := by
  have hn : -(-(pu_I u)) = pu_I u := Int32.neg_neg
  have hm : ∀ k, pu_I (k + 1) + (-1) = pu_I k := fun k => by
    rw [← pu_su]
    exact Int32.add_sub_cancel (pu_I k) 1 |> fun h => by rw [Int32.sub_eq_add_neg] at h; exact h
  rw [hn, if_pos (sb_ix hu), pu_nn (by omega)]
  obtain ⟨d1, d2⟩ := sb_dO ⟨u, hu⟩
  dsimp only at d1 d2
  have e9 := sb_nk (a := u) (by omega) (c := -9) (k := 9) rfl
  by_cases c1 : u < 10
  · have e1 : c + (if u < 10 then 1 else 2) = c + 1 := by rw [if_pos c1]
    rw [e1] at hN2
    rw [e1, hm, if_pos ((pu_ix (by omega)).mpr (by omega)), pu_nn (by omega), d1]
    dsimp only [lt9]
    rw [if_pos (e9.mpr (by omega)), if_pos c1, Nat.mod_eq_of_lt c1]
    rfl
  · have e1 : c + (if u < 10 then 1 else 2) = (c + 1) + 1 := by rw [if_neg c1]
    rw [e1] at hN2
    rw [e1, hm, hm, if_pos ((pu_ix (by omega)).mpr (by omega)), pu_nn (by omega), d1]
    dsimp only [lt9]
    have n9 : ¬ (-9) ≤ -(pu_I u) := fun q => by have := e9.mp q; omega
    rw [if_neg n9, if_pos (sb_ix hu), if_pos ((pu_ix (by omega)).mpr (by omega)), pu_nn (by omega), d2, if_neg c1]
    rfl
theorem sb_dv {v : Nat} (hv : v < 10000) : -(pu_I v) / 100 = -(pu_I (v / 100)) ∧ (-(pu_I (v / 100)) * 100) - -(pu_I v) = pu_I (v % 100) := by
  constructor
  · refine Int32.toInt_inj.mp ?_
    rw [Int32.toInt_div_of_ne_right _ _ (by decide), sb_ng (by omega), sb_ng (by omega)]
    show Int.tdiv (-(v : Int)) 100 = _
    rw [Int.neg_tdiv]
    rfl
  · rw [Int32.neg_mul, Int32.sub_neg, Int32.add_comm, ← Int32.sub_eq_add_neg]
    have e1 : pu_I (v / 100) * 100 = pu_I (v / 100 * 100) := pv_mul _ 100
    rw [e1, pv_sub (by omega)]
    exact congrArg pu_I (by omega)
theorem sb_gc {v c N : Nat} {f : RI} (hv : v < 5000) (hc : c + 4 ≤ 100000) (hN : c + (mp_d v).length ≤ N) (hN9 : N < 1000000) : ∃ q f', fJ6_getChars_ba4f3 (pu_I v) (pu_I (c + (mp_d v).length)) N f = some (q, f') ∧ (∀ j, j < c → f' j = f j) ∧ (∀ j, j < (mp_d v).length → f' (c + j) = (mp_d v).getD j 0) ∧ ∀ j, f' j = f j ∨ ∃ b, b < 128 ∧ f' j = pu_I b := by
  have hm : ∀ k, pu_I (k + 1) + (-1) = pu_I k := fun k => by
    rw [← pu_su]
    exact Int32.add_sub_cancel (pu_I k) 1 |> fun h => by rw [Int32.sub_eq_add_neg] at h; exact h
  have h0 : (0 : Int32) ≤ pu_I v := (pu_le (a := 0) (by decide) (by omega)).mpr (Nat.zero_le _)
  have hNF : NF = 4194302 + 1 + 1 := rfl
  unfold fJ6_getChars_ba4f3
  rw [if_pos h0]
  by_cases c2 : v < 100
  · have hd : (mp_d v).length = (if v < 10 then 1 else 2) := by
      unfold mp_d
      by_cases c1 : v < 10
      · rw [if_pos c1, if_pos c1]; rfl
      · rw [if_neg c1, if_pos c2, if_neg c1]; rfl
    have eL : fJ6_getChars_ba4f3_L22 N NF (-(pu_I v)) (pu_I (c + (mp_d v).length)) f = some (-(pu_I v), pu_I (c + (mp_d v).length), f) := by
      rw [hNF]
      show (if (-100) < -(pu_I v) then some (-(pu_I v), pu_I (c + (mp_d v).length), f) else _) = _
      rw [if_pos ((sb_nr (by omega) (c := -100) (k := 100) rfl).mpr (by omega))]
    rw [hd] at hN
    have hg := sb_g2 (f := f) c2 (by omega) hN
    rw [← hd] at hg
    refine ⟨pu_I c, if v < 10 then upd f c (pu_I (48 + v)) else upd (upd f (c + 1) (pu_I (48 + v % 10))) c (pu_I (48 + v / 10)), ?_, ?_⟩
    · show (if (0 : Int32) = 0 then ((fJ6_getChars_ba4f3_L22 N NF (-(pu_I v)) (pu_I (c + (mp_d v).length)) f).bind _) else _) = _
      rw [if_pos rfl, eL, Option.bind_some]
      exact hg
    · unfold mp_d
      by_cases c1 : v < 10
      · rw [if_pos c1, if_pos c1]
        refine ⟨fun j hj => ?_, fun j hj => ?_, fun j => ?_⟩
        · show (if j = c then _ else f j) = _
          rw [if_neg (by omega)]
        · obtain rfl : j = 0 := Nat.lt_one_iff.mp hj
          show (if c + 0 = c then pu_I (48 + v) else f (c + 0)) = _
          rw [if_pos (by omega)]; rfl
        · show (if j = c then pu_I (48 + v) else f j) = f j ∨ ∃ b, b < 128 ∧ (if j = c then pu_I (48 + v) else f j) = pu_I b
          by_cases d : j = c
          · rw [if_pos d]; exact Or.inr ⟨48 + v, by omega, rfl⟩
          · rw [if_neg d]; exact Or.inl rfl
      · rw [if_neg c1, if_neg c1, if_pos c2]
        refine ⟨fun j hj => ?_, fun j hj => ?_, fun j => ?_⟩
        · show (if j = c then _ else if j = c + 1 then _ else f j) = _
          rw [if_neg (by omega), if_neg (by omega)]
        · show (if c + j = c then pu_I (48 + v / 10) else if c + j = c + 1 then pu_I (48 + v % 10) else f (c + j)) = _
          rcases (show j = 0 ∨ j = 1 by have : j < 2 := hj; omega) with rfl | rfl
          · rw [if_pos (by omega)]; rfl
          · rw [if_neg (by omega), if_pos rfl]; rfl
        · show (if j = c then pu_I (48 + v / 10) else if j = c + 1 then pu_I (48 + v % 10) else f j) = f j ∨ ∃ b, b < 128 ∧ (if j = c then pu_I (48 + v / 10) else if j = c + 1 then pu_I (48 + v % 10) else f j) = pu_I b
          by_cases d : j = c
          · rw [if_pos d]; exact Or.inr ⟨48 + v / 10, by omega, rfl⟩
          rw [if_neg d]
          by_cases d2 : j = c + 1
          · rw [if_pos d2]; exact Or.inr ⟨48 + v % 10, by omega, rfl⟩
          · rw [if_neg d2]; exact Or.inl rfl
  · have hu : v / 100 < 100 := by omega
    have hd : (mp_d v).length = (if v / 100 < 10 then 1 else 2) + 2 := by
      unfold mp_d
      rw [if_neg (show ¬ v < 10 by omega), if_neg c2]
      by_cases c3 : v < 1000
      · rw [if_pos c3, if_pos (by omega)]; rfl
      · rw [if_neg c3, if_neg (by omega)]; rfl
    obtain ⟨v1, v2⟩ := sb_dv (v := v) (by omega)
    obtain ⟨d1, d2⟩ := sb_dO ⟨v % 100, by omega⟩
    dsimp only at d1 d2
    generalize hz : (if v / 100 < 10 then 1 else 2) = z at hd
    have hz2 : z ≤ 2 ∧ 1 ≤ z := by subst hz; split <;> omega
    have eL : fJ6_getChars_ba4f3_L22 N NF (-(pu_I v)) (pu_I (c + (mp_d v).length)) f = some (-(pu_I (v / 100)), pu_I (c + z), upd (upd f (c + z + 1) (pu_I (48 + v % 100 % 10))) (c + z) (pu_I (48 + v % 100 / 10))) := by
      rw [hNF, hd]
      have n1 : ¬ (-100) < -(pu_I v) := fun q => by have := (sb_nr (a := v) (by omega) (c := -100) (k := 100) rfl).mp q; omega
      show (if (-100) < -(pu_I v) then some (-(pu_I v), pu_I (c + (z + 2)), f) else (if ixb (((-(pu_I v) / 100) * 100) - -(pu_I v)) 100 = true then (if ixb (pu_I (c + (z + 2)) + (-1)) N = true then (lt9 (upd f (nn (pu_I (c + (z + 2)) + (-1))) (vp_nar .byte (dgO (nn (((-(pu_I v) / 100) * 100) - -(pu_I v)))))) fun (f5 : RI) => (if ixb (((-(pu_I v) / 100) * 100) - -(pu_I v)) 100 = true then (if ixb ((pu_I (c + (z + 2)) + (-1)) + (-1)) N = true then (lt9 (upd f5 (nn ((pu_I (c + (z + 2)) + (-1)) + (-1))) (vp_nar .byte (dgT (nn (((-(pu_I v) / 100) * 100) - -(pu_I v)))))) fun (f8 : RI) => ((fJ6_getChars_ba4f3_L22 N (4194302 + 1)) (-(pu_I v) / 100) ((pu_I (c + (z + 2)) + (-1)) + (-1)) f8)) else none) else none)) else none) else none)) = _
      have e1 : c + (z + 2) = (c + z + 1) + 1 := by omega
      rw [if_neg n1, v1, v2, if_pos (sb_ix (by omega)), e1, hm, hm, if_pos ((pu_ix (by omega)).mpr (by omega))]
      dsimp only [lt9]
      rw [if_pos (sb_ix (by omega)), if_pos ((pu_ix (by omega)).mpr (by omega))]
      rw [pu_nn (by omega), pu_nn (by omega), pu_nn (by omega), d1, d2]
      show (if (-100) < -(pu_I (v / 100)) then some (-(pu_I (v / 100)), pu_I (c + z), upd (upd f (c + z + 1) (pu_I (48 + v % 100 % 10))) (c + z) (pu_I (48 + v % 100 / 10))) else _) = _
      rw [if_pos ((sb_nr (by omega) (c := -100) (k := 100) rfl).mpr (by omega))]
    have hg := sb_g2 (c := c) (N := N) (f := upd (upd f (c + z + 1) (pu_I (48 + v % 100 % 10))) (c + z) (pu_I (48 + v % 100 / 10))) hu (by omega) (by rw [hz]; omega)
    rw [hz] at hg
    refine ⟨pu_I c, if v / 100 < 10 then upd (upd (upd f (c + z + 1) (pu_I (48 + v % 100 % 10))) (c + z) (pu_I (48 + v % 100 / 10))) c (pu_I (48 + v / 100)) else upd (upd (upd (upd f (c + z + 1) (pu_I (48 + v % 100 % 10))) (c + z) (pu_I (48 + v % 100 / 10))) (c + 1) (pu_I (48 + v / 100 % 10))) c (pu_I (48 + v / 100 / 10)), ?_, ?_⟩
    · show (if (0 : Int32) = 0 then ((fJ6_getChars_ba4f3_L22 N NF (-(pu_I v)) (pu_I (c + (mp_d v).length)) f).bind _) else _) = _
      rw [if_pos rfl, eL, Option.bind_some]
      exact hg
    · have a1 : v % 100 % 10 = v % 10 := by omega
      have a2 : v % 100 / 10 = v / 10 % 10 := by omega
      rw [a1, a2]
      unfold mp_d
      rw [if_neg (show ¬ v < 10 by omega), if_neg c2]
      by_cases c3 : v < 1000
      · have b3 : v / 100 < 10 := by omega
        rw [if_pos b3, if_pos c3]
        rw [if_pos b3] at hz
        subst hz
        refine ⟨fun j hj => ?_, fun j hj => ?_, fun j => ?_⟩
        · show (if j = c then _ else if j = c + 1 then _ else if j = c + 1 + 1 then _ else f j) = _
          rw [if_neg (by omega), if_neg (by omega), if_neg (by omega)]
        · show (if c + j = c then pu_I (48 + v / 100) else if c + j = c + 1 then pu_I (48 + v / 10 % 10) else if c + j = c + 1 + 1 then pu_I (48 + v % 10) else f (c + j)) = _
          rcases (show j = 0 ∨ j = 1 ∨ j = 2 by have : j < 3 := hj; omega) with rfl | rfl | rfl
          · rw [if_pos (by omega)]; rfl
          · rw [if_neg (by omega), if_pos rfl]; rfl
          · rw [if_neg (by omega), if_neg (by omega), if_pos rfl]; rfl
        · show (if j = c then pu_I (48 + v / 100) else if j = c + 1 then pu_I (48 + v / 10 % 10) else if j = c + 1 + 1 then pu_I (48 + v % 10) else f j) = f j ∨ ∃ b, b < 128 ∧ (if j = c then pu_I (48 + v / 100) else if j = c + 1 then pu_I (48 + v / 10 % 10) else if j = c + 1 + 1 then pu_I (48 + v % 10) else f j) = pu_I b
          by_cases d : j = c
          · rw [if_pos d]; exact Or.inr ⟨48 + v / 100, by omega, rfl⟩
          rw [if_neg d]
          by_cases d2 : j = c + 1
          · rw [if_pos d2]; exact Or.inr ⟨48 + v / 10 % 10, by omega, rfl⟩
          rw [if_neg d2]
          by_cases d3 : j = c + 1 + 1
          · rw [if_pos d3]; exact Or.inr ⟨48 + v % 10, by omega, rfl⟩
          · rw [if_neg d3]; exact Or.inl rfl
      · have b3 : ¬ v / 100 < 10 := by omega
        rw [if_neg b3, if_neg c3]
        rw [if_neg b3] at hz
        subst hz
        have a3 : v / 100 / 10 = v / 1000 := by omega
        rw [a3]
        refine ⟨fun j hj => ?_, fun j hj => ?_, fun j => ?_⟩
        · show (if j = c then _ else if j = c + 1 then _ else if j = c + 2 then _ else if j = c + 2 + 1 then _ else f j) = _
          rw [if_neg (by omega), if_neg (by omega), if_neg (by omega), if_neg (by omega)]
        · show (if c + j = c then pu_I (48 + v / 1000) else if c + j = c + 1 then pu_I (48 + v / 100 % 10) else if c + j = c + 2 then pu_I (48 + v / 10 % 10) else if c + j = c + 2 + 1 then pu_I (48 + v % 10) else f (c + j)) = _
          rcases (show j = 0 ∨ j = 1 ∨ j = 2 ∨ j = 3 by have : j < 4 := hj; omega) with rfl | rfl | rfl | rfl
          · rw [if_pos (by omega)]; rfl
          · rw [if_neg (by omega), if_pos rfl]; rfl
          · rw [if_neg (by omega), if_neg (by omega), if_pos rfl]; rfl
          · rw [if_neg (by omega), if_neg (by omega), if_neg (by omega), if_pos rfl]; rfl
        · show (if j = c then pu_I (48 + v / 1000) else if j = c + 1 then pu_I (48 + v / 100 % 10) else if j = c + 2 then pu_I (48 + v / 10 % 10) else if j = c + 2 + 1 then pu_I (48 + v % 10) else f j) = f j ∨ ∃ b, b < 128 ∧ (if j = c then pu_I (48 + v / 1000) else if j = c + 1 then pu_I (48 + v / 100 % 10) else if j = c + 2 then pu_I (48 + v / 10 % 10) else if j = c + 2 + 1 then pu_I (48 + v % 10) else f j) = pu_I b
          by_cases d : j = c
          · rw [if_pos d]; exact Or.inr ⟨48 + v / 1000, by omega, rfl⟩
          rw [if_neg d]
          by_cases d2 : j = c + 1
          · rw [if_pos d2]; exact Or.inr ⟨48 + v / 100 % 10, by omega, rfl⟩
          rw [if_neg d2]
          by_cases d3 : j = c + 2
          · rw [if_pos d3]; exact Or.inr ⟨48 + v / 10 % 10, by omega, rfl⟩
          rw [if_neg d3]
          by_cases d4 : j = c + 2 + 1
          · rw [if_pos d4]; exact Or.inr ⟨48 + v % 10, by omega, rfl⟩
          · rw [if_neg d4]; exact Or.inl rfl
theorem sb_dl {v : Nat} (hv : v < 5000) : 1 ≤ (mp_d v).length ∧ (mp_d v).length ≤ 4 := by
  unfold mp_d
  by_cases c1 : v < 10
  · rw [if_pos c1]; exact ⟨Nat.le_refl 1, by show 1 ≤ 4; decide⟩
  rw [if_neg c1]
  by_cases c2 : v < 100
  · rw [if_pos c2]; exact ⟨by show 1 ≤ 2; decide, by show 2 ≤ 4; decide⟩
  rw [if_neg c2]
  by_cases c3 : v < 1000
  · rw [if_pos c3]; exact ⟨by show 1 ≤ 3; decide, by show 3 ≤ 4; decide⟩
  rw [if_neg c3]
  exact ⟨by show 1 ≤ 4; decide, Nat.le_refl 4⟩
theorem sb_int {K : Nat} {n : Nat → Nat} {w : ST} {t : List Int32} (h : sb9 K n w t) {v : Nat} (hv : v < 5000) (hL : t.length + (mp_d v).length ≤ 2000) (hK : 2 * K + 2 ≤ 6000) : ∃ w' n', fJ4_append_bf812 n w (pu_I v) = some (w', n') ∧ sb9 (gK K (t.length + (mp_d v).length)) n' w' (t ++ mp_d v) := by
  obtain ⟨w1, n1, e1, g, g0⟩ := sb_ens (m := (mp_d v).length) h hL
  have h5 := h.2.1.2
  have hK2 := h.1.2.2
  obtain ⟨⟨k1, k2, k3⟩, ⟨k4, k5⟩, k6, k7, k8⟩ := g
  obtain ⟨q, f', e2, f1, f2, f3⟩ := sb_gc (v := v) (c := t.length) (N := n1 1) (f := w1 1) hv (by omega) g0 (by omega)
  have e3 : fJ5_isLatin1_aae02 w1 = some 1 := by
    unfold fJ5_isLatin1_aae02
    rw [k4]
    decide +kernel
  unfold fJ4_append_bf812 fJ5_append_c97b9
  rw [sb_sz hv, Option.bind_some, h5, pv_add, e1, Option.bind_some]
  unfold fJ5_append_c97b9_G17_6
  rw [e3, Option.bind_some, if_neg (by decide : ¬ (1 : Int32) = 0), h5, pv_add]
  show ∃ w' n', (((fJ6_getChars_ba4f3 (pu_I v) (pu_I (t.length + (mp_d v).length)) (n1 1) (w1 1)).bind fun (o_11 : Int32 × RI) => (fJ5_append_c97b9_J48 w (pu_I (mp_d v).length) (w1, n1) (srw w1 1 (o_11.2)))).bind fun (o_1 : ST × (Nat → Nat)) => (fJ4_append_bf812_G5_5 o_1)) = some (w', n') ∧ _
  rw [e2, Option.bind_some]
  refine ⟨upw (srw w1 1 f') 0 3 (pu_I (t.length + (mp_d v).length)), n1, ?_, ⟨k1, by rw [List.length_append]; omega, by unfold gK; split <;> omega⟩, ⟨k4, by rw [List.length_append]; rfl⟩, fun j hj => ?_, fun j => ?_, asc_app k8 (asc_d (by omega))⟩
  · show some (upw (srw w1 1 f') 0 3 (w 0 3 + pu_I (mp_d v).length), n1) = _
    rw [h5, pv_add]
  · rw [List.length_append] at hj
    show f' j = _
    by_cases c : t.length ≤ j
    · rw [sb_getr c]
      have := f2 (j - t.length) (by omega)
      rw [show t.length + (j - t.length) = j by omega] at this
      exact this
    · rw [sb_getl (by omega), f1 j (by omega)]
      exact k6 j (by omega)
  · show fits .byte (.int (f' j)) = true
    rcases f3 j with e | ⟨b, hb, e⟩
    · rw [e]; exact k7 j
    · rw [e]; exact fb_1 ⟨b, hb⟩
end SBI
