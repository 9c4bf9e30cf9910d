/-! pure side, the graph 1: bits of long numbers, one by one -/
theorem pg_sh6 {h : Nat} (hh : h < 2147483648) : pu_I h >>> ((6 : Int32) &&& 31) = pu_I (h / 64) := by
  have e : pu_I h >>> ((6 : Int32) &&& 31) = Int32.ofBitVec ((pu_I h).toBitVec.sshiftRight 6) := rfl
  rw [e]
  apply Int32.toInt_inj.mp
  rw [pu_ti (show h / 64 < 2147483648 by omega)]
  show ((pu_I h).toBitVec.sshiftRight 6).toInt = _
  rw [BitVec.toInt_sshiftRight]
  show (pu_I h).toInt >>> 6 = _
  rw [pu_ti hh, Int.shiftRight_eq_div_pow]
  show (h : Int) / ((2 ^ 6 : Nat) : Int) = ((h / 64 : Nat) : Int)
  omega
theorem pg_an63 {h : Nat} (hh : h < 2147483648) : pu_I h &&& 63 = pu_I (h % 64) := by
  apply Int32.toBitVec_inj.mp
  apply BitVec.eq_of_toNat_eq
  rw [Int32.toBitVec_and, BitVec.toNat_and]
  show (h % 2 ^ 32) &&& (63 % 2 ^ 32) = (h % 64) % 2 ^ 32
  rw [show (63 % 2 ^ 32 : Nat) = 2 ^ 6 - 1 by decide, Nat.and_two_pow_sub_one_eq_mod]
  omega
theorem pg_bt_not (x : Int64) {j : Nat} (hj : j < 64) : pv_bt (x ^^^ ((-1) : Int64)) j = !pv_bt x j := by
  unfold pv_bt
  rw [Int64.toBitVec_xor, BitVec.getLsbD_xor, show ((-1 : Int64)).toBitVec = BitVec.allOnes 64 from by decide, BitVec.getLsbD_allOnes, decide_eq_true hj]
  cases x.toBitVec.getLsbD j <;> rfl
theorem pg_bt_neg (x : Int64) {j : Nat} (hj : j < 64) : pv_bt (-x) j = (pv_bt x j ^^ decide (∃ k, k < j ∧ pv_bt x k = true)) := by
  unfold pv_bt
  rw [Int64.toBitVec_neg, BitVec.getLsbD_neg, decide_eq_true hj]
  rfl
theorem pg_bt_m1 (x : Int64) {j : Nat} (hj : j < 64) : pv_bt (x - (1 : Int64)) j = !pv_bt (-x) j := by
  have h : (x - (1 : Int64)).toBitVec = ~~~((-x).toBitVec) := by
    rw [Int64.toBitVec_sub, Int64.toBitVec_neg, BitVec.neg_eq_not_add, ← BitVec.not_sub_one_eq_not_add_one, BitVec.not_not]
    rfl
  unfold pv_bt
  rw [h, BitVec.getLsbD_not, decide_eq_true hj]
  rfl
theorem pg_least (p : Nat → Bool) : ∀ j, p j = true → ∃ i, i ≤ j ∧ p i = true ∧ ∀ k, k < i → p k = false := by
  intro j
  induction j using Nat.strongRecOn with
  | _ j ih =>
    intro h
    by_cases hx : ∃ k, k < j ∧ p k = true
    · obtain ⟨k, k1, k2⟩ := hx
      obtain ⟨i, i1, i2, i3⟩ := ih k k1 k2
      exact ⟨i, by omega, i2, i3⟩
    · refine ⟨j, Nat.le_refl j, h, fun k hk => ?_⟩
      cases e : p k with
      | false => rfl
      | true => exact absurd ⟨k, hk, e⟩ hx
theorem pg_bc1 : ∀ i : Fin 64, fJ13_bitCount_95d88 (((1 : Int64) <<< ((Int32.ofNat i.val).toInt64 &&& 63)) - (1 : Int64)) = some (Int32.ofNat i.val) := by decide +kernel
/-- the lowest bit, and what is left without it -/
theorem pg_low {x : Int64} (hx : x ≠ 0) : ∃ i, i < 64 ∧ pv_bt x i = true ∧ (∀ k, k < i → pv_bt x k = false) ∧ fX11_lowest x = some (pu_I i) ∧ ∀ j, pv_bt (x &&& (x - (1 : Int64))) j = (pv_bt x j && decide (j ≠ i)) := by
  have h0 : ∃ j, j < 64 ∧ pv_bt x j = true := by
    refine Classical.byContradiction fun h => hx (pv_bt_ext fun j hj => ?_)
    rw [pv_bt_0]
    cases e : pv_bt x j with
    | false => rfl
    | true => exact absurd ⟨j, hj, e⟩ h
  obtain ⟨j0, hj0, hb0⟩ := h0
  obtain ⟨i, i1, i2, i3⟩ := pg_least (pv_bt x) j0 hb0
  have hi : i < 64 := by omega
  have hex : ∀ j, (∃ k, k < j ∧ pv_bt x k = true) ↔ i < j := fun j => ⟨fun ⟨k, k1, k2⟩ => by
    by_cases h : k < i
    · rw [i3 k h] at k2; cases k2
    · omega, fun h => ⟨i, h, i2⟩⟩
  have hone : (x &&& (-x)) = (1 : Int64) <<< ((Int32.ofNat i).toInt64 &&& 63) := by
    refine pv_bt_ext fun j hj => ?_
    rw [pv_bt_and, pg_bt_neg x hj, show pv_bt ((1 : Int64) <<< ((Int32.ofNat i).toInt64 &&& 63)) j = decide (j = i) from pv_bt_1 hi]
    by_cases h1 : j < i
    · rw [i3 j h1, decide_eq_false (show ¬ j = i by omega)]
      rfl
    · by_cases h2 : j = i
      · subst h2
        rw [i2, decide_eq_true rfl, decide_eq_false (by rw [hex]; omega)]
        rfl
      · rw [decide_eq_true ((hex j).mpr (by omega)), decide_eq_false h2]
        cases pv_bt x j <;> rfl
  refine ⟨i, hi, i2, i3, ?_, fun j => ?_⟩
  · unfold fX11_lowest
    rw [hone, pg_bc1 ⟨i, hi⟩]
    rfl
  · by_cases hj : j < 64
    · rw [pv_bt_and, pg_bt_m1 x hj, pg_bt_neg x hj]
      by_cases h1 : j < i
      · rw [i3 j h1]
        rfl
      · by_cases h2 : j = i
        · subst h2
          rw [i2, decide_eq_false (show ¬ ∃ k, k < j ∧ pv_bt x k = true by rw [hex]; omega), decide_eq_false (show ¬ j ≠ j from fun h => h rfl)]
          rfl
        · rw [decide_eq_true ((hex j).mpr (by omega)), decide_eq_true h2]
          cases pv_bt x j <;> rfl
    · rw [pv_bt_ge (by omega), pv_bt_ge (by omega)]
      rfl
/-- a loop over the bits of a number, the lowest first -/
theorem pg_bits {σ τ : Type} {G : Nat → Int64 → σ → Option τ} {Q : τ → Prop} {x0 : Int64} {Inv : Nat → σ → Prop}
    (hs : ∀ n x i s, x ≠ 0 → i < 64 → pv_bt x0 i = true → fX11_lowest x = some (pu_I i) → Inv i s → ∃ s', G (n + 1) x s = G n (x &&& (x - (1 : Int64))) s' ∧ Inv (i + 1) s')
    (hn : ∀ i s, i < 64 → pv_bt x0 i = false → Inv i s → Inv (i + 1) s)
    (he : ∀ n s, Inv 64 s → ∃ t, G (n + 1) 0 s = some t ∧ Q t) :
    ∀ (m i n : Nat) (x : Int64) (s : σ), i + m = 64 → m < n → (∀ j, pv_bt x j = (pv_bt x0 j && decide (i ≤ j))) → Inv i s → ∃ t, G n x s = some t ∧ Q t := by
  have up : ∀ (d i : Nat) (s : σ), i + d ≤ 64 → (∀ j, i ≤ j → j < i + d → pv_bt x0 j = false) → Inv i s → Inv (i + d) s := by
    intro d
    induction d with
    | zero => intro i s _ _ h; exact h
    | succ d ih =>
      intro i s h1 h2 h3
      have h9 := ih (i + 1) s (by omega) (fun j j1 j2 => h2 j (by omega) (by omega)) (hn i s (by omega) (h2 i (Nat.le_refl i) (by omega)) h3)
      rw [show i + (d + 1) = i + 1 + d by omega]
      exact h9
  intro m
  induction m using Nat.strongRecOn with
  | _ m ih =>
    intro i n x s hi hm hx hI
    obtain ⟨n', rfl⟩ : ∃ n', n = n' + 1 := ⟨n - 1, by omega⟩
    by_cases h0 : x = 0
    · subst h0
      have h9 := up m i s (by omega) (fun j j1 j2 => by
        have h8 := hx j
        rw [pv_bt_0, decide_eq_true j1, Bool.and_true] at h8
        exact h8.symm) hI
      rw [hi] at h9
      exact he n' s h9
    · obtain ⟨k, k1, k2, k3, k4, k5⟩ := pg_low h0
      have hxk := hx k
      rw [k2] at hxk
      have hxk := hxk.symm
      rw [Bool.and_eq_true] at hxk
      have hik : i ≤ k := of_decide_eq_true hxk.2
      have h9 := up (k - i) i s (by omega) (fun j j1 j2 => by
        have h8 := hx j
        rw [k3 j (by omega), decide_eq_true j1, Bool.and_true] at h8
        exact h8.symm) hI
      rw [show i + (k - i) = k by omega] at h9
      obtain ⟨s', e1, e2⟩ := hs n' x k s h0 k1 hxk.1 k4 h9
      rw [e1]
      refine ih (64 - (k + 1)) (by omega) (k + 1) n' _ s' (by omega) (by omega) (fun j => ?_) e2
      rw [k5, hx]
      by_cases h1 : k + 1 ≤ j
      · rw [decide_eq_true h1, decide_eq_true (show i ≤ j by omega), decide_eq_true (show j ≠ k by omega)]
        cases pv_bt x0 j <;> rfl
      · rw [decide_eq_false h1]
        by_cases h2 : j = k
        · rw [decide_eq_false (show ¬ j ≠ k from fun h => h h2)]
          cases (pv_bt x0 j && decide (i ≤ j)) <;> cases pv_bt x0 j <;> rfl
        · have h7 : pv_bt x0 j = false ∨ decide (i ≤ j) = false := by
            have h8 := hx j
            rw [k3 j (by omega)] at h8
            cases e1 : pv_bt x0 j with
            | false => exact Or.inl rfl
            | true =>
              rw [e1] at h8
              exact Or.inr h8.symm
          rcases h7 with h7 | h7 <;> rw [h7]
          · rfl
          · cases pv_bt x0 j <;> rfl
/-! how many bits -/
def pg_num : List Nat → Nat
  | [] => 0
  | b :: l => 256 * pg_num l + b
def pg_rep (c : Nat) : Nat → Nat
  | 0 => 0
  | n + 1 => 256 * pg_rep c n + c
theorem pg_and (a b c d : Nat) (hb : b < 256) (hd : d < 256) : (256 * a + b) &&& (256 * c + d) = 256 * (a &&& c) + (b &&& d) := by
  have hbd : b &&& d < 256 := Nat.lt_of_le_of_lt Nat.and_le_left hb
  apply Nat.eq_of_testBit_eq
  intro j
  rw [Nat.testBit_and, show 256 = 2 ^ 8 from rfl, Nat.testBit_two_pow_mul_add a hb j, Nat.testBit_two_pow_mul_add c hd j, Nat.testBit_two_pow_mul_add (a &&& c) hbd j]
  by_cases h : j < 8
  · rw [if_pos h, if_pos h, if_pos h, Nat.testBit_and]
  · rw [if_neg h, if_neg h, if_neg h, Nat.testBit_and]
def pg_b1 (r : Nat) : Nat := r - (r / 2 &&& 0x55)
def pg_b2 (r : Nat) : Nat := (r &&& 0x33) + (r / 4 &&& 0x33)
def pg_b3 (r : Nat) : Nat := (r + r / 16) &&& 0x0f
theorem pg_e1 : ∀ (e : Fin 2) (r : Fin 256), (128 * e.val + r.val / 2) &&& 0x55 = r.val / 2 &&& 0x55 := by decide +kernel
theorem pg_e2 : ∀ (e : Fin 4) (r : Fin 256), (64 * e.val + r.val / 4) &&& 0x33 = r.val / 4 &&& 0x33 := by decide +kernel
theorem pg_e3 : ∀ (e : Fin 5) (r : Fin 256), (16 * e.val + (r.val + r.val / 16)) &&& 0x0f = (r.val + r.val / 16) &&& 0x0f := by decide +kernel
theorem pg_s1 : ∀ l : List Nat, (∀ b ∈ l, b < 256) → pg_num l - (pg_num l / 2 &&& pg_rep 0x55 l.length) = pg_num (l.map pg_b1) ∧ (pg_num l / 2 &&& pg_rep 0x55 l.length) ≤ pg_num l := by
  intro l
  induction l with
  | nil => intro _; exact ⟨rfl, Nat.le_refl 0⟩
  | cons r l ih =>
    intro h
    have hr := h r List.mem_cons_self
    obtain ⟨i1, i2⟩ := ih fun b hb => h b (List.mem_cons_of_mem _ hb)
    have e1 : (256 * pg_num l + r) / 2 = 256 * (pg_num l / 2) + (128 * (pg_num l % 2) + r / 2) := by omega
    have e2 : (256 * pg_num l + r) / 2 &&& (256 * pg_rep 0x55 l.length + 0x55) = 256 * (pg_num l / 2 &&& pg_rep 0x55 l.length) + (r / 2 &&& 0x55) := by
      rw [e1, pg_and _ _ _ _ (by omega) (by decide)]
      congr 1
      exact pg_e1 ⟨pg_num l % 2, by omega⟩ ⟨r, hr⟩
    have hle : (r / 2 &&& 0x55) ≤ r := Nat.le_trans Nat.and_le_left (Nat.div_le_self _ _)
    show (256 * pg_num l + r) - ((256 * pg_num l + r) / 2 &&& (256 * pg_rep 0x55 l.length + 0x55)) = 256 * pg_num (l.map pg_b1) + pg_b1 r ∧ ((256 * pg_num l + r) / 2 &&& (256 * pg_rep 0x55 l.length + 0x55)) ≤ 256 * pg_num l + r
    rw [e2, ← i1]
    unfold pg_b1
    omega
theorem pg_s2 : ∀ l : List Nat, (∀ b ∈ l, b < 256) → (pg_num l &&& pg_rep 0x33 l.length) + (pg_num l / 4 &&& pg_rep 0x33 l.length) = pg_num (l.map pg_b2) := by
  intro l
  induction l with
  | nil => intro _; rfl
  | cons r l ih =>
    intro h
    have hr := h r List.mem_cons_self
    have i1 := ih fun b hb => h b (List.mem_cons_of_mem _ hb)
    have e1 : (256 * pg_num l + r) / 4 = 256 * (pg_num l / 4) + (64 * (pg_num l % 4) + r / 4) := by omega
    have e2 : (256 * pg_num l + r) / 4 &&& (256 * pg_rep 0x33 l.length + 0x33) = 256 * (pg_num l / 4 &&& pg_rep 0x33 l.length) + (r / 4 &&& 0x33) := by
      rw [e1, pg_and _ _ _ _ (by omega) (by decide)]
      congr 1
      exact pg_e2 ⟨pg_num l % 4, by omega⟩ ⟨r, hr⟩
    show ((256 * pg_num l + r) &&& (256 * pg_rep 0x33 l.length + 0x33)) + ((256 * pg_num l + r) / 4 &&& (256 * pg_rep 0x33 l.length + 0x33)) = 256 * pg_num (l.map pg_b2) + pg_b2 r
    rw [e2, pg_and _ _ _ _ hr (by decide), ← i1]
    unfold pg_b2
    omega
theorem pg_s3 : ∀ l : List Nat, (∀ b ∈ l, b < 256 ∧ b % 16 ≤ 4 ∧ b / 16 ≤ 4) → ((pg_num l + pg_num l / 16) &&& pg_rep 0x0f l.length) = pg_num (l.map pg_b3) := by
  intro l
  induction l with
  | nil => intro _; rfl
  | cons r l ih =>
    intro h
    obtain ⟨hr, hr1, hr2⟩ := h r List.mem_cons_self
    have i1 := ih fun b hb => h b (List.mem_cons_of_mem _ hb)
    have hq : pg_num l % 16 ≤ 4 := by
      cases l with
      | nil => exact Nat.zero_le _
      | cons b l =>
        have := (h b (List.mem_cons_of_mem _ List.mem_cons_self)).2.1
        show (256 * pg_num l + b) % 16 ≤ 4
        omega
    have e1 : (256 * pg_num l + r) + (256 * pg_num l + r) / 16 = 256 * (pg_num l + pg_num l / 16) + (16 * (pg_num l % 16) + (r + r / 16)) := by omega
    show ((256 * pg_num l + r) + (256 * pg_num l + r) / 16) &&& (256 * pg_rep 0x0f l.length + 0x0f) = 256 * pg_num (l.map pg_b3) + pg_b3 r
    rw [e1, pg_and _ _ _ _ (by omega) (by decide), i1]
    congr 1
    exact pg_e3 ⟨pg_num l % 16, by omega⟩ ⟨r, hr⟩
def pg_pc (r : Nat) : Nat := pv_sm (fun j => if r.testBit j = true then 1 else 0) 8
theorem pg_e4 : ∀ r : Fin 256, pg_b3 (pg_b2 (pg_b1 r.val)) = pg_pc r.val ∧ pg_pc r.val ≤ 8 ∧ pg_b1 r.val < 256 ∧ pg_b2 (pg_b1 r.val) < 256 ∧ pg_b2 (pg_b1 r.val) % 16 ≤ 4 ∧ pg_b2 (pg_b1 r.val) / 16 ≤ 4 := by decide +kernel
