/-! pure side: the text goes onto the tape, twenty bytes a time -/
section WRT
theorem bn9 {a : Nat} (h : a < 4294967296) : (pu_I a).toBitVec.toNat = a := by
  rw [Int32.toBitVec_ofNat']
  exact Nat.mod_eq_of_lt h
theorem sh9 {a b : Nat} (ha : a < 8388608) (hb : b < 256) : (pu_I b) ||| (pu_I a <<< ((8 : Int32) &&& 31)) = pu_I (a * 256 + b) := by
  apply Int32.toBitVec_inj.mp
  apply BitVec.eq_of_toNat_eq
  rw [Int32.toBitVec_or, Int32.toBitVec_shiftLeft, show (((8 : Int32) &&& 31)).toBitVec.smod 32 = 8#32 from by decide, BitVec.toNat_or, bn9 (by omega)]
  rw [show (pu_I a).toBitVec <<< 8#32 = (pu_I a).toBitVec <<< 8 from rfl, BitVec.toNat_shiftLeft, bn9 (by omega), bn9 (by omega), Nat.shiftLeft_eq, Nat.mod_eq_of_lt (by omega), Nat.or_comm]
  have e := (Nat.shiftLeft_add_eq_or_of_lt (i := 8) (b := b) (by omega) a).symm
  rw [Nat.shiftLeft_eq] at e
  exact e
theorem by_r {N s : Nat} (hN : N < 2147483648) (hs : s = 0 ∨ s = 8 ∨ s = 16 ∨ s = 24) : (((pu_I N).toUInt32 >>> ((pu_I s).toUInt32 &&& Int32.toUInt32 31)).toInt32) &&& 255 = pu_I (N / 2 ^ s % 256) := by
  have e1 : ((pu_I s).toUInt32 &&& Int32.toUInt32 31) = UInt32.ofNat s := by rcases hs with e | e | e | e <;> subst e <;> decide
  have e2 : (UInt32.ofNat s).toNat % 32 = s := by rcases hs with e | e | e | e <;> subst e <;> decide
  have e3 : (pu_I N).toUInt32.toNat = N := bn9 (by omega)
  have e4 : ((pu_I N).toUInt32 >>> UInt32.ofNat s).toNat = N / 2 ^ s := by
    rw [UInt32.toNat_shiftRight, e2, e3, Nat.shiftRight_eq_div_pow]
  have hl : N / 2 ^ s < 4294967296 := Nat.lt_of_le_of_lt (Nat.div_le_self _ _) (by omega)
  rw [e1]
  apply Int32.toBitVec_inj.mp
  apply BitVec.eq_of_toNat_eq
  rw [Int32.toBitVec_and, BitVec.toNat_and, bn9 (by omega)]
  show ((pu_I N).toUInt32 >>> UInt32.ofNat s).toNat &&& 255 = _
  rw [e4]
  exact Nat.and_two_pow_sub_one_eq_mod (N / 2 ^ s) 8
/-- bytes, and blanks behind -/
def tbN (n : Nat) (f : RI) (j : Nat) : Nat := if j < n then nn (f j) else 32
variable {n : Nat} {f : RI}
theorem ca_1 : ∀ b : Fin 128, ((((pu_I b.val) &&& 255 : Int32).toUInt32 % 65536).toInt32) = pu_I b.val ∧ pu_I b.val = (pu_I b.val : Int32).toUInt32.toUInt16.toUInt32.toInt32 := by decide +kernel
theorem ca_9 (hn : n < 2147483648) {k b : Nat} (hk : k < n) (hb : b < 128) (hf : f k = pu_I b) : fJ0_charAt_5068e n f (pu_I k) = some (pu_I b) := by
  have hlat : fJ0_isLatin1_aae02 = some 1 := by decide
  have h1 := ca_1 ⟨b, hb⟩
  dsimp only at h1
  have hix : ixb (pu_I k) n = true := decide_eq_true (by rw [pu_ti (by omega)]; omega)
  have h0 : ¬ pu_I k < 0 := fun e => by
    have e2 := Int32.lt_iff_toInt_lt.mp e
    rw [pu_ti (by omega)] at e2
    have e3 : (0 : Int32).toInt = 0 := by decide
    omega
  have hc : fJ1_charAt_3b067 n f (pu_I k) = some (pu_I b) := by
    unfold fJ1_charAt_3b067 fJ0_checkIndex_df160 fJ3_checkIndex_8e157
    rw [if_neg h0, if_pos ((pu_lt (by omega) hn).mpr hk), Option.bind_some, Option.bind_some, if_pos hix, pu_nn (by omega), hf, h1.1, if_pos h1.2]
  unfold fJ0_charAt_5068e
  rw [hlat, Option.bind_some, if_neg (by decide), hc, Option.bind_some, if_pos h1.2]
/-- what is asked of the text -/
def tx_ok (n : Nat) (f : RI) : Prop := n ≤ 1180 ∧ ∀ k, k < n → ∃ b, b < 128 ∧ f k = pu_I b
theorem tx_b (h : tx_ok n f) (j : Nat) : tbN n f j < 128 := by
  unfold tbN
  by_cases hj : j < n
  · rw [if_pos hj]
    obtain ⟨b, hb, e⟩ := h.2 j hj
    rw [e, pu_nn (by omega)]; exact hb
  · rw [if_neg hj]; decide
theorem fo_1 (h : tx_ok n f) {k m a j : Nat} (hk : k ≤ 1200) (hj : j < k + 4) (hkj : k ≤ j) (ha : a < 8388608) : fL_four_L4 n f (pu_I k) (m + 1) (pu_I a) (pu_I j) = fL_four_L4 n f (pu_I k) m (pu_I (a * 256 + tbN n f j)) (pu_I (j + 1)) := by
  have hlen : fJ0_length_8abf5 n = some (pu_I n) := by
    have e : fJ0_coder_7d493 = some 0 := by decide
    unfold fJ0_length_8abf5
    rw [e, Option.bind_some]
    exact congrArg some (by rw [show ((0 : Int32) &&& 31) = 0 from rfl]; simp)
  have h4 : ¬ (pu_I k + 4 : Int32) ≤ pu_I j := fun e => by
    rw [show pu_I k + 4 = pu_I (k + 4) from (Int32.ofNat_add k 4).symm, pu_le (by omega) (by omega)] at e
    omega
  have hb := tx_b h j
  have hn := h.1
  rw [show fL_four_L4 n f (pu_I k) (m + 1) (pu_I a) (pu_I j) = (if (pu_I k + 4 : Int32) ≤ pu_I j then some (pu_I a) else ((fJ0_length_8abf5 n).bind fun (o_2 : Int32) => (if o_2 ≤ pu_I j then (fL_four_J33 (fL_four_L4 n f (pu_I k) m) (pu_I j) 32 (pu_I a <<< (8 &&& 31))) else ((fJ0_charAt_5068e n f (pu_I j)).bind fun (o_5 : Int32) => (fL_four_J33 (fL_four_L4 n f (pu_I k) m) (pu_I j) o_5 (pu_I a <<< (8 &&& 31))))))) from rfl, if_neg h4, hlen, Option.bind_some]
  have key : ∀ b, b < 256 → fL_four_J33 (fL_four_L4 n f (pu_I k) m) (pu_I j) (pu_I b) (pu_I a <<< (8 &&& 31)) = fL_four_L4 n f (pu_I k) m (pu_I (a * 256 + b)) (pu_I (j + 1)) := fun b hb => by
    unfold fL_four_J33
    rw [← sh9 ha hb, show pu_I (j + 1) = pu_I j + 1 from Int32.ofNat_add j 1, Int32.or_comm]
  by_cases hc : j < n
  · rw [if_neg (fun e => by rw [pu_le (by omega) (by omega)] at e; omega)]
    obtain ⟨b, hb2, e⟩ := h.2 j hc
    rw [ca_9 (by omega) hc hb2 e, Option.bind_some, key b (by omega)]
    unfold tbN
    rw [if_pos hc, e, pu_nn (by omega)]
  · rw [if_pos ((pu_le (by omega) (by omega)).mpr (by omega))]
    unfold tbN
    rw [if_neg hc]
    exact key 32 (by decide)
/-- four bytes in a number -/
def pk4 (g : Nat → Nat) (k : Nat) : Nat := ((g k * 256 + g (k + 1)) * 256 + g (k + 2)) * 256 + g (k + 3)
theorem fo_4 (h : tx_ok n f) {k : Nat} (hk : k ≤ 1200) : fL_four n f (pu_I k) = some (pu_I (pk4 (tbN n f) k)) := by
  have b0 := tx_b h k
  have b1 := tx_b h (k + 1)
  have b2 := tx_b h (k + 1 + 1)
  have b3 := tx_b h (k + 1 + 1 + 1)
  unfold fL_four
  rw [show (fL_four_L4 n f (pu_I k) NF 0 (pu_I k)) = fL_four_L4 n f (pu_I k) (4194299 + 1 + 1 + 1 + 1 + 1) (pu_I 0) (pu_I k) from rfl, fo_1 h hk (by omega) (by omega) (by omega), fo_1 h hk (by omega) (by omega) (by omega), fo_1 h hk (by omega) (by omega) (by omega), fo_1 h hk (by omega) (by omega) (by omega)]
  rw [show ∀ v, fL_four_L4 n f (pu_I k) (4194299 + 1) v (pu_I (k + 1 + 1 + 1 + 1)) = some v from fun v => by
    show (if (pu_I k + 4 : Int32) ≤ pu_I (k + 4) then some v else _) = _
    rw [if_pos (by rw [show pu_I k + 4 = pu_I (k + 4) from (Int32.ofNat_add k 4).symm]; exact Int32.le_refl _)], Option.bind_some]
  unfold pk4
  rw [Nat.zero_mul, Nat.zero_add]
/-- the tape holds the first q bytes of g -/
def tp9 (w : ST) (q : Nat) (g : Nat → Nat) : Prop := w 0 1 = pu_I q ∧ q ≤ 1200 ∧ ∀ j, j < q → w 1 j = pu_I (g j)
/-- what stays while bytes are put -/
def tq9 (w w' : ST) : Prop := (∀ r, r ≠ 0 → r ≠ 1 → w' r = w r) ∧ ∀ j, j ≠ 1 → w' 0 j = w 0 j
theorem tq9_tr {a b c : ST} (h : tq9 a b) (k : tq9 b c) : tq9 a c := ⟨fun r h0 h1 => (k.1 r h0 h1).trans (h.1 r h0 h1), fun j hj => (k.2 j hj).trans (h.2 j hj)⟩
theorem ap_1 {w : ST} {q N s m : Nat} {g : Nat → Nat} {v' : Int32} (h : tp9 w q g) (hq : q + 1 ≤ 1200) (hN : N < 2147483648) (hs : s = 0 ∨ s = 8 ∨ s = 16 ∨ s = 24) (hg : N / 2 ^ s % 256 = g q) (hv : pu_I s + (-8) = v') :
    ∃ w', fX10_append_L3 (pu_I N) (m + 1) (pu_I s) w = fX10_append_L3 (pu_I N) m v' w' ∧ tp9 w' (q + 1) g ∧ tq9 w w' := by
  have h0 : ¬ pu_I s < 0 := by rcases hs with e | e | e | e <;> subst e <;> decide
  have h1 : ¬ (1200 : Int32) ≤ w 0 1 := fun e => by
    rw [h.1, show (1200 : Int32) = pu_I 1200 from rfl, pu_le (by decide) (by omega)] at e
    omega
  have hix : ixb (w 0 1) 1200 = true := by
    rw [h.1]; exact decide_eq_true (by rw [pu_ti (by omega)]; omega)
  refine ⟨upw (upw w 1 q (pu_I (g q))) 0 1 (pu_I (q + 1)), ?_, ⟨rfl, hq, fun j hj => ?_⟩, fun r a b => ?_, fun j hj => ?_⟩
  · show (if pu_I s < 0 then some w else (if (1200 : Int32) ≤ w 0 1 then some w else (if ixb (w 0 1) 1200 = true then (lt9 (upw w 1 (nn (w 0 1)) ((((pu_I N : Int32).toUInt32 >>> ((pu_I s : Int32).toUInt32 &&& Int32.toUInt32 31)).toInt32) &&& 255)) fun (w4 : ST) => (lt9 (upw w4 0 1 ((w4 0 1) + 1)) fun (w5 : ST) => ((fX10_append_L3 (pu_I N) m) (pu_I s + (-8)) w5))) else none))) = _
    rw [if_neg h0, if_neg h1, if_pos hix, by_r hN hs, hg, hv, h.1, pu_nn (by omega)]
    dsimp only [lt9]
    rw [show upw w 1 q (pu_I (g q)) 0 1 = w 0 1 from rfl, h.1, show pu_I (q + 1) = pu_I q + 1 from Int32.ofNat_add q 1]
  · show (if j = q then pu_I (g q) else w 1 j) = _
    by_cases e : j = q
    · rw [if_pos e, e]
    · rw [if_neg e]; exact h.2.2 j (by omega)
  · rw [pv_upw_n a, pv_upw_n b]
  · show (if j = 1 then _ else w 0 j) = _
    rw [if_neg hj]
theorem ap_4 {w : ST} {q : Nat} {g : Nat → Nat} (h : tp9 w q g) (hq : q + 4 ≤ 1200) (hg : ∀ k, g k < 128) : ∃ w', fX10_append w (pu_I (pk4 g q)) = some w' ∧ tp9 w' (q + 4) g ∧ tq9 w w' := by
  have g0 := hg q
  have g1 := hg (q + 1)
  have g2 := hg (q + 2)
  have g3 := hg (q + 3)
  have hN : pk4 g q < 2147483648 := by unfold pk4; omega
  obtain ⟨w1, e1, t1, u1⟩ := ap_1 (m := 4194303) (s := 24) (v' := 16) h (by omega) hN (by decide) (by unfold pk4; omega) (by decide)
  obtain ⟨w2, e2, t2, u2⟩ := ap_1 (m := 4194302) (s := 16) (v' := 8) t1 (by omega) hN (by decide) (by unfold pk4; omega) (by decide)
  obtain ⟨w3, e3, t3, u3⟩ := ap_1 (m := 4194301) (s := 8) (v' := 0) t2 (by omega) hN (by decide) (by show _ = g (q + 2); unfold pk4; omega) (by decide)
  obtain ⟨w4, e4, t4, u4⟩ := ap_1 (m := 4194300) (s := 0) (v' := -8) t3 (by omega) hN (by decide) (by show _ = g (q + 3); unfold pk4; omega) (by decide)
  refine ⟨w4, ?_, t4, tq9_tr u1 (tq9_tr u2 (tq9_tr u3 u4))⟩
  unfold fX10_append
  rw [show fX10_append_L3 (pu_I (pk4 g q)) NF 24 w = some w4 from e1.trans (e2.trans (e3.trans e4))]
  rfl
/-- twenty bytes -/
theorem fd_1 {w : ST} {q : Nat} {g : Nat → Nat} (h : tp9 w q g) (hq : q + 20 ≤ 1200) (hg : ∀ k, g k < 128) : ∃ o, fX11_feed (pu_I (pk4 g q)) (pu_I (pk4 g (q + 4))) (pu_I (pk4 g (q + 8))) (pu_I (pk4 g (q + 12))) (pu_I (pk4 g (q + 16))) w = some o ∧ tp9 o.2 (q + 20) g ∧ tq9 w o.2 := by
  obtain ⟨w1, e1, t1, u1⟩ := ap_4 h (by omega) hg
  obtain ⟨w2, e2, t2, u2⟩ := ap_4 t1 (by omega) hg
  obtain ⟨w3, e3, t3, u3⟩ := ap_4 t2 (by omega) hg
  obtain ⟨w4, e4, t4, u4⟩ := ap_4 t3 (by omega) hg
  obtain ⟨w5, e5, t5, u5⟩ := ap_4 t4 (by omega) hg
  refine ⟨(w5 0 1, w5), ?_, t5, tq9_tr u1 (tq9_tr u2 (tq9_tr u3 (tq9_tr u4 u5)))⟩
  unfold fX11_feed
  have hr : (w 0 1 + 20 : Int32) ≤ 1200 := by
    rw [h.1, show pu_I q + 20 = pu_I (q + 20) from (Int32.ofNat_add q 20).symm]
    exact (pu_le (b := 1200) (by omega) (by decide)).mpr hq
  rw [if_pos hr, e1, Option.bind_some, e2, Option.bind_some, e3, Option.bind_some, e4, Option.bind_some, e5, Option.bind_some]
/-- THE TEXT IS WRITTEN -/
theorem wr_L (h : tx_ok n f) : ∀ (c q m : Nat) (w : ST), n ≤ q + 20 * c ∧ q + 20 * c < n + 20 → c < m → tp9 w q (tbN n f) → ∃ w', fL_write_L2 n f m (pu_I q) w = some w' ∧ tp9 w' (q + 20 * c) (tbN n f) ∧ tq9 w w' := by
  have hlen : fJ0_length_8abf5 n = some (pu_I n) := by
    have e : fJ0_coder_7d493 = some 0 := by decide
    unfold fJ0_length_8abf5
    rw [e, Option.bind_some]
    exact congrArg some (by rw [show ((0 : Int32) &&& 31) = 0 from rfl]; simp)
  have hn := h.1
  intro c
  induction c with
  | zero =>
    intro q m w hq hm ht
    obtain ⟨m, rfl⟩ : ∃ k, m = k + 1 := ⟨m - 1, by omega⟩
    refine ⟨w, ?_, ht, fun _ _ _ => rfl, fun _ _ => rfl⟩
    show ((fJ0_length_8abf5 n).bind fun (o_1 : Int32) => (if o_1 ≤ pu_I q then some w else _)) = _
    rw [hlen, Option.bind_some, if_pos ((pu_le (by omega) (by omega)).mpr (by omega))]
  | succ c ih =>
    intro q m w hq hm ht
    obtain ⟨m, rfl⟩ : ∃ k, m = k + 1 := ⟨m - 1, by omega⟩
    have hqn : q < n := by omega
    have hq2 : q + 20 ≤ 1200 := by omega
    obtain ⟨o, e1, t1, u1⟩ := fd_1 ht hq2 (tx_b h)
    obtain ⟨w', e2, t2, u2⟩ := ih (q + 20) m o.2 (by omega) (by omega) t1
    refine ⟨w', ?_, by rw [show q + 20 * (c + 1) = q + 20 + 20 * c by omega]; exact t2, tq9_tr u1 u2⟩
    show ((fJ0_length_8abf5 n).bind fun (o_1 : Int32) => (if o_1 ≤ pu_I q then some w else ((fL_four n f (pu_I q)).bind fun (o_4 : Int32) => ((fL_four n f (pu_I q + 4)).bind fun (o_6 : Int32) => ((fL_four n f (pu_I q + 8)).bind fun (o_8 : Int32) => ((fL_four n f (pu_I q + 12)).bind fun (o_10 : Int32) => ((fL_four n f (pu_I q + 16)).bind fun (o_12 : Int32) => ((fX11_feed o_4 o_6 o_8 o_10 o_12 w).bind fun (o_14 : Int32 × ST) => ((fL_write_L2 n f m) (pu_I q + 20) (o_14.2)))))))))) = _
    rw [hlen, Option.bind_some, if_neg (fun e => by rw [pu_le (by omega) (by omega)] at e; omega)]
    rw [show pu_I q + 4 = pu_I (q + 4) from (Int32.ofNat_add q 4).symm, show pu_I q + 8 = pu_I (q + 8) from (Int32.ofNat_add q 8).symm, show pu_I q + 12 = pu_I (q + 12) from (Int32.ofNat_add q 12).symm, show pu_I q + 16 = pu_I (q + 16) from (Int32.ofNat_add q 16).symm, show pu_I q + 20 = pu_I (q + 20) from (Int32.ofNat_add q 20).symm]
    rw [fo_4 h (by omega), Option.bind_some, fo_4 h (by omega), Option.bind_some, fo_4 h (by omega), Option.bind_some, fo_4 h (by omega), Option.bind_some, fo_4 h (by omega), Option.bind_some, e1, Option.bind_some]
    exact e2
theorem wr_ok (h : tx_ok n f) {w : ST} (hw : w 0 1 = 0) : ∃ w' q, fL_write n f w = some w' ∧ n ≤ q ∧ q < n + 20 ∧ tp9 w' q (tbN n f) ∧ tq9 w w' := by
  have hn := h.1
  obtain ⟨c, hc2⟩ : ∃ c, n ≤ 20 * c ∧ 20 * c < n + 20 := by
    by_cases e : n % 20 = 0
    · exact ⟨n / 20, by omega⟩
    · exact ⟨n / 20 + 1, by omega⟩
  obtain ⟨w', e1, t1, u1⟩ := wr_L h c 0 NF w (by omega) (by show c < 4194304; omega) ⟨hw, by decide, fun j hj => absurd hj (by omega)⟩
  rw [Nat.zero_add] at t1
  refine ⟨w', 20 * c, ?_, hc2.1, hc2.2, t1, u1⟩
  unfold fL_write
  rw [show fL_write_L2 n f NF 0 w = some w' from e1]
  rfl
end WRT
