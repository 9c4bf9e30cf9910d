/-! pure side, stores 9: sets of blocks as bits -/
def pv_bt (x : Int64) (i : Nat) : Bool := x.toBitVec.getLsbD i
theorem pv_b63 : ∀ i : Fin 64, ((Int32.ofNat i.val).toInt64.toUInt64 &&& Int64.toUInt64 63).toBitVec % 64 = BitVec.ofNat 64 i.val := by decide +kernel
theorem pv_b64 : ∀ i j : Fin 64, pv_bt ((1 : Int64) <<< ((Int32.ofNat i.val).toInt64 &&& 63)) j.val = decide (j = i) := by decide +kernel
theorem pv_ball : ∀ (n : Fin 61) (j : Fin 64), pv_bt (((1 : Int64) <<< ((Int32.ofNat n.val).toInt64 &&& 63)) - 1) j.val = decide (j.val < n.val) := by decide +kernel
theorem pv_bt_ge {x : Int64} {i : Nat} (h : 64 ≤ i) : pv_bt x i = false := BitVec.getLsbD_of_ge _ _ h
theorem pv_bt_1 {i j : Nat} (hi : i < 64) : pv_bt ((1 : Int64) <<< ((pu_I i).toInt64 &&& 63)) j = decide (j = i) := by
  by_cases hj : j < 64
  · have := pv_b64 ⟨i, hi⟩ ⟨j, hj⟩
    rw [this]
    by_cases h : j = i
    · simp [h]
    · simp [h]
  · rw [pv_bt_ge (by omega)]
    symm
    rw [decide_eq_false_iff_not]
    omega
theorem pv_bt_all {n j : Nat} (hn : n ≤ 60) : pv_bt (((1 : Int64) <<< ((pu_I n).toInt64 &&& 63)) - 1) j = decide (j < n) := by
  by_cases hj : j < 64
  · exact pv_ball ⟨n, by omega⟩ ⟨j, hj⟩
  · rw [pv_bt_ge (by omega)]
    symm
    rw [decide_eq_false_iff_not]
    omega
theorem pv_bt_or (x y : Int64) (j : Nat) : pv_bt (x ||| y) j = (pv_bt x j || pv_bt y j) := by
  unfold pv_bt
  rw [Int64.toBitVec_or, BitVec.getLsbD_or]
theorem pv_bt_and (x y : Int64) (j : Nat) : pv_bt (x &&& y) j = (pv_bt x j && pv_bt y j) := by
  unfold pv_bt
  rw [Int64.toBitVec_and, BitVec.getLsbD_and]
theorem pv_bt_0 (j : Nat) : pv_bt 0 j = false := by
  unfold pv_bt
  show (0#64).getLsbD j = false
  simp
theorem pv_bt_one (j : Nat) : pv_bt 1 j = decide (j = 0) := by
  have h := pv_bt_1 (i := 0) (j := j) (by decide)
  rw [← h]
  rfl
theorem pv_bt_ext {x y : Int64} (h : ∀ j, j < 64 → pv_bt x j = pv_bt y j) : x = y := by
  apply Int64.toBitVec_inj.mp
  exact BitVec.eq_of_getLsbD_eq fun j hj => h j hj
theorem pv_cmp0 (a b : Int64) : lg_cmp a b = 0 ↔ a = b := by
  unfold lg_cmp
  by_cases h1 : a > b
  · rw [if_pos h1]
    refine ⟨fun c => absurd c (by decide), fun c => ?_⟩
    rw [c] at h1
    exact absurd h1 (by exact Int64.lt_irrefl)
  · rw [if_neg h1]
    by_cases h2 : a = b
    · rw [if_pos h2]
      exact ⟨fun _ => h2, fun _ => rfl⟩
    · rw [if_neg h2]
      exact ⟨fun c => absurd c (by decide), fun c => absurd c h2⟩
theorem pv_shr {x : Int64} {i : Nat} (hi : i < 64) (j : Nat) : pv_bt (((x.toUInt64 >>> ((pu_I i).toInt64.toUInt64 &&& Int64.toUInt64 63)).toInt64)) j = pv_bt x (i + j) := by
  unfold pv_bt
  rw [UInt64.toBitVec_toInt64, UInt64.toBitVec_shiftRight, Int64.toBitVec_toUInt64]
  have h := pv_b63 ⟨i, hi⟩
  have h2 : ((pu_I i).toInt64.toUInt64 &&& Int64.toUInt64 63).toBitVec % 64 = BitVec.ofNat 64 i := h
  rw [h2, BitVec.ushiftRight_eq', BitVec.getLsbD_ushiftRight, BitVec.toNat_ofNat, Nat.mod_eq_of_lt (by omega)]
theorem pv_holds {x : Int64} {i : Nat} (hi : i < 64) : fX11_holds x (pu_I i) = some (pv_b (pv_bt x i)) := by
  unfold fX11_holds fX11_holds_J15
  have hz : (((x.toUInt64 >>> ((pu_I i).toInt64.toUInt64 &&& Int64.toUInt64 63)).toInt64) &&& (1 : Int64)) = 0 ↔ pv_bt x i = false := by
    constructor
    · intro h
      have h0 : pv_bt (((x.toUInt64 >>> ((pu_I i).toInt64.toUInt64 &&& Int64.toUInt64 63)).toInt64) &&& (1 : Int64)) 0 = pv_bt 0 0 := by rw [h]
      rw [pv_bt_and, pv_shr hi, pv_bt_one, pv_bt_0] at h0
      simpa using h0
    · intro h
      refine pv_bt_ext fun j hj => ?_
      rw [pv_bt_and, pv_shr hi, pv_bt_one, pv_bt_0]
      by_cases hj0 : j = 0
      · subst hj0
        rw [Nat.add_zero, h]
        rfl
      · simp [hj0]
  by_cases h : pv_bt x i = true
  · rw [if_neg (by rw [pv_cmp0, hz, h]; decide), if_pos (Or.inr rfl), h]
    rfl
  · have h : pv_bt x i = false := by simpa using h
    rw [if_pos (by rw [pv_cmp0, hz, h]), if_pos (Or.inl rfl), h]
    rfl
