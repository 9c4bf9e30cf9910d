/-! pure side: what a StringBuilder holds -/
section SBA
theorem sb_sr (x : Int32) : x >>> ((0 : Int32) &&& 31) = x := by
  have e : ((0 : Int32) &&& 31) = 0 := by decide
  rw [e]
  exact Int32.shiftRight_zero
theorem sb_sl (x : Int32) : x <<< ((0 : Int32) &&& 31) = x := by
  have e : ((0 : Int32) &&& 31) = 0 := by decide
  rw [e]
  exact Int32.shiftLeft_zero
theorem sb_le {a b : Nat} (ha : a < 1000000) (hb : b < 1000000) : (pu_I a - pu_I b : Int32) ≤ 0 ↔ a ≤ b := by
  have e : (pu_I a - pu_I b : Int32).toInt = (a : Int) - (b : Int) := by
    rw [Int32.toInt_sub, pu_ti (by omega), pu_ti (by omega)]
    show Int.bmod ((a : Int) - (b : Int)) 4294967296 = _
    exact Int.bmod_eq_of_le (by omega) (by omega)
  rw [Int32.le_iff_toInt_le, e]
  show (a : Int) - (b : Int) ≤ 0 ↔ _
  omega
theorem fb_1 : ∀ b : Fin 128, fits .byte (.int (pu_I b.val)) = true := by decide +kernel
theorem asc_g {x : List Int32} (h : asc x) (j : Nat) : ∃ b, b < 128 ∧ x.getD j 0 = pu_I b := by
  rw [List.getD_eq_getElem?_getD]
  by_cases hj : j < x.length
  · rw [List.getElem?_eq_getElem hj]
    exact h _ (List.getElem_mem hj)
  · rw [List.getElem?_eq_none (by omega)]
    exact ⟨0, by decide, rfl⟩
theorem asc_f {x : List Int32} (h : asc x) (j : Nat) : fits .byte (.int (x.getD j 0)) = true := by
  obtain ⟨b, h1, h2⟩ := asc_g h j
  rw [h2]
  exact fb_1 ⟨b, h1⟩
/-- a StringBuilder with room K holds t -/
def sb9 (K : Nat) (n : Nat → Nat) (w : ST) (t : List Int32) : Prop := (n 1 = K ∧ t.length ≤ K ∧ K ≤ 6000) ∧ (w 0 1 = 0 ∧ w 0 3 = pu_I t.length) ∧ (∀ j, j < t.length → w 1 j = t.getD j 0) ∧ (∀ j, fits .byte (.int (w 1 j)) = true) ∧ asc t
/-- the room behind an append -/
def gK (K L : Nat) : Nat := if L ≤ K then K else max L (2 * K + 2)
variable {K m : Nat} {n : Nat → Nat} {w : ST} {t x : List Int32} {f : RI}
theorem sb_ens (h : sb9 K n w t) (hL : t.length + m ≤ 2000) : ∃ w' n', fJ5_ensureCapacityInternal_d00df n w (pu_I (t.length + m)) = some (w', n') ∧ sb9 (gK K (t.length + m)) n' w' t ∧ t.length + m ≤ n' 1 := by
  obtain ⟨⟨h1, h2, h3⟩, ⟨h4, h5⟩, h6, h7, h8⟩ := h
  unfold fJ5_ensureCapacityInternal_d00df gK
  rw [h4, h1, sb_sr]
  by_cases c : t.length + m ≤ K
  · rw [if_pos ((sb_le (by omega) (by omega)).mpr c), if_pos c]
    exact ⟨w, n, rfl, ⟨⟨h1, h2, h3⟩, ⟨h4, h5⟩, h6, h7, h8⟩, by omega⟩
  rw [if_neg (fun q => c ((sb_le (by omega) (by omega)).mp q)), if_neg c]
  generalize hN : max (t.length + m) (2 * K + 2) = N
  have hN1 : t.length + m ≤ N := by omega
  have hN2 : 2 * K + 2 ≤ N := by omega
  have hN3 : N ≤ 12002 := by omega
  have e1 : fJ5_newCapacity_0f7a4 n w (pu_I (t.length + m)) = some (pu_I N) := by
    unfold fJ5_newCapacity_0f7a4 fJ8_newLength_cabcc
    rw [h4, h1, sb_sl]
    have e2 : ((2 : Int32) <<< ((0 : Int32) &&& 31)) = 2 := sb_sl 2
    rw [e2]
    have e3 : (Int32.ofNat K) + (if ((pu_I (t.length + m)) - (Int32.ofNat K)) < ((Int32.ofNat K) + 2) then ((Int32.ofNat K) + 2) else ((pu_I (t.length + m)) - (Int32.ofNat K))) = pu_I N := by
      have a1 : (pu_I (t.length + m)) - (Int32.ofNat K) = pu_I (t.length + m - K) := pv_sub (by omega)
      have a2 : (Int32.ofNat K) + 2 = pu_I (K + 2) := pv_add K 2
      rw [a1, a2]
      by_cases d : t.length + m - K < K + 2
      · rw [if_pos ((pu_lt (by omega) (by omega)).mpr d)]
        have a3 : Int32.ofNat K + pu_I (K + 2) = pu_I (K + (K + 2)) := pv_add K (K + 2)
        rw [a3]
        exact congrArg pu_I (by omega)
      · rw [if_neg (fun q => d ((pu_lt (by omega) (by omega)).mp q))]
        have a3 : Int32.ofNat K + pu_I (t.length + m - K) = pu_I (K + (t.length + m - K)) := pv_add K _
        rw [a3]
        exact congrArg pu_I (by omega)
    rw [e3]
    have e4 : ¬ pu_I N ≤ 0 := fun q => by
      have q2 := (pu_le (a := N) (b := 0) (by omega) (by decide)).mp q
      omega
    have e5 : ¬ (2147483639 : Int32) < pu_I N := fun q => by
      have q2 := (pu_lt (a := 2147483639) (b := N) (by decide) (by omega)).mp q
      omega
    rw [if_neg e4, if_neg e5]
    show (if pu_I N = 2147483647 then none else some (pu_I N >>> ((0 : Int32) &&& 31))) = some (pu_I N)
    have e6 : ¬ pu_I N = 2147483647 := fun q => by
      have q2 := pu_inj (a := N) (b := 2147483647) (by omega) (by decide) q
      omega
    rw [if_neg e6, sb_sr]
  rw [e1, Option.bind_some, sb_sl]
  have hnn : nn (pu_I N) = N := pu_nn (by omega)
  have hKn : nn (Int32.ofNat K) = K := pu_nn (by omega)
  have e7 : fJ7_copyOf_9075b K (w 1) (pu_I N) = some (N, va_cpy (w 1) (fun _ => 0) (nn 0) (nn 0) K) := by
    unfold fJ7_copyOf_9075b
    have c1 : ¬ pu_I N = Int32.ofNat K := fun q => by
      have q2 := pu_inj (a := N) (b := K) (by omega) (by omega) q
      omega
    have c2 : nck (pu_I N) = true := decide_eq_true ⟨pu_ge (by omega), by rw [hnn]; omega⟩
    have c3 : ¬ pu_I N < Int32.ofNat K := fun q => by
      have q2 := (pu_lt (a := N) (b := K) (by omega) (by omega)).mp q
      omega
    have c4 : cpk 0 0 (Int32.ofNat K) K (nn (pu_I N)) = true := decide_eq_true ⟨by decide, by decide, pu_ge (by omega), by rw [hKn]; show 0 + K ≤ K; omega, by rw [hKn, hnn]; show 0 + K ≤ N; omega⟩
    have c5 : fbk (w 1) (nn 0) (nn (Int32.ofNat K)) = true := List.all_eq_true.mpr fun i _ => h7 _
    rw [if_neg c1, if_pos c2, if_neg c3, if_pos c4, if_pos c5, hKn, hnn]
    rfl
  rw [e7, Option.bind_some]
  have e8 : grs K N = true := decide_eq_true ⟨by omega, by omega⟩
  rw [if_pos e8]
  refine ⟨srw w 1 (va_cpy (w 1) (fun _ => 0) (nn 0) (nn 0) K), stn n 1 N, rfl, ⟨⟨rfl, by omega, by omega⟩, ⟨h4, h5⟩, fun j hj => ?_, fun j => ?_, h8⟩, hN1⟩
  · show (if 0 ≤ j ∧ j < 0 + K then w 1 (0 + (j - 0)) else 0) = _
    rw [if_pos ⟨Nat.zero_le _, by omega⟩, Nat.sub_zero, Nat.zero_add]
    exact h6 j hj
  · show fits .byte (.int (if 0 ≤ j ∧ j < 0 + K then w 1 (0 + (j - 0)) else 0)) = true
    by_cases d : 0 ≤ j ∧ j < 0 + K
    · rw [if_pos d]; exact h7 _
    · rw [if_neg d]; exact fb_1 0
theorem sb_cod : fJ0_coder_7d493 = some 0 := by decide +kernel
theorem sb_getl {j : Nat} (h : j < t.length) : (t ++ x).getD j 0 = t.getD j 0 := by
  rw [List.getD_eq_getElem?_getD, List.getD_eq_getElem?_getD, List.getElem?_append_left h]
theorem sb_getr {j : Nat} (h : t.length ≤ j) : (t ++ x).getD j 0 = x.getD (j - t.length) 0 := by
  rw [List.getD_eq_getElem?_getD, List.getD_eq_getElem?_getD, List.getElem?_append_right h]
theorem sb_str (h : sb9 K n w t) (hm : m = x.length) (hf : ∀ j, j < m → f j = x.getD j 0) (hx : asc x) (hL : t.length + m ≤ 2000) (hK : 2 * K + 2 ≤ 6000) : ∃ w' n', fJ4_append_15ec4 n w m f = some (w', n') ∧ sb9 (gK K (t.length + m)) n' w' (t ++ x) := by
  obtain ⟨w1, n1, e1, g, g0⟩ := sb_ens (m := m) h hL
  have h5 := h.2.1.2
  unfold fJ4_append_15ec4 fJ5_append_cf1ce
  have e2 : fJ0_length_8abf5 m = some (pu_I m) := by
    unfold fJ0_length_8abf5
    rw [sb_cod, Option.bind_some, sb_sr]
  rw [e2, Option.bind_some, h5, pv_add, e1, Option.bind_some]
  obtain ⟨⟨k1, k2, k3⟩, ⟨k4, k5⟩, k6, k7, k8⟩ := g
  have hmm : nn (Int32.ofNat m) = m := pu_nn (by omega)
  have hcc : nn (pu_I t.length) = t.length := pu_nn (by omega)
  have e3 : fJ5_putStringAt_47b60 n1 w1 (w1 0 3) m f = some (srw w1 1 (va_cpy f (w1 1) (nn 0) t.length m)) := by
    unfold fJ5_putStringAt_47b60 fJ5_inflateIfNeededFor_a7421 fJ0_getBytes_840e7
    rw [sb_cod, k4, k5]
    have c4 : cpk 0 (pu_I t.length) (Int32.ofNat m) m (n1 1) = true := decide_eq_true ⟨by decide, pu_ge (by omega), pu_ge (by omega), by rw [hmm]; show 0 + m ≤ m; omega, by rw [hmm, hcc]; exact g0⟩
    show (if cpk 0 ((pu_I t.length) <<< ((0 : Int32) &&& 31)) (Int32.ofNat m) m (n1 1) = true then (lt9 (va_cpy f (w1 1) (nn 0) (nn ((pu_I t.length) <<< ((0 : Int32) &&& 31))) (nn (Int32.ofNat m))) fun (f5 : RI) => (fJ0_getBytes_840e7_J43 f5)) else none).bind (fun (o_2 : RI) => some (srw w1 1 o_2)) = _
    rw [sb_sl, if_pos c4, hmm, hcc]
    rfl
  unfold fJ5_append_cf1ce_G24_6
  show ∃ w' n', (((fJ5_putStringAt_47b60 n1 w1 (w1 0 3) m f).bind fun (o_7 : ST) => (lt9 (upw o_7 0 3 ((o_7 0 3) + pu_I m)) fun (w8 : ST) => some (w8, n1))).bind fun (o_1 : ST × (Nat → Nat)) => (fJ4_append_15ec4_G5_5 o_1)) = some (w', n') ∧ sb9 (gK K (t.length + m)) n' w' (t ++ x)
  rw [e3]
  have k5' : (srw w1 1 (va_cpy f (w1 1) (nn 0) t.length m)) 0 3 + pu_I m = pu_I (t.length + m) := by
    show w1 0 3 + pu_I m = _
    rw [k5, pv_add]
  refine ⟨upw (srw w1 1 (va_cpy f (w1 1) (nn 0) t.length m)) 0 3 (pu_I (t.length + m)), n1, ?_, ⟨k1, by rw [List.length_append, ← hm]; omega, by unfold gK; split <;> omega⟩, ⟨k4, by rw [List.length_append, ← hm]; rfl⟩, fun j hj => ?_, fun j => ?_, asc_app k8 hx⟩
  · show some (upw (srw w1 1 (va_cpy f (w1 1) (nn 0) t.length m)) 0 3 ((srw w1 1 (va_cpy f (w1 1) (nn 0) t.length m)) 0 3 + pu_I m), n1) = _
    rw [k5']
  · rw [List.length_append, ← hm] at hj
    show (if t.length ≤ j ∧ j < t.length + m then f (0 + (j - t.length)) else w1 1 j) = _
    by_cases c : t.length ≤ j
    · rw [if_pos ⟨c, hj⟩, sb_getr c, Nat.zero_add]
      exact hf _ (by omega)
    · rw [if_neg (fun q => c q.1), sb_getl (by omega)]
      exact k6 j (by omega)
  · show fits .byte (.int (if t.length ≤ j ∧ j < t.length + m then f (0 + (j - t.length)) else w1 1 j)) = true
    by_cases c : t.length ≤ j ∧ j < t.length + m
    · rw [if_pos c, hf _ (by omega)]
      exact asc_f hx _
    · rw [if_neg c]; exact k7 j
end SBA
