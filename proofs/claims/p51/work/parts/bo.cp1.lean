/-! pure side, the allocator 1: which copy may be put first -/
section CPA
variable {w : ST} {n k : Nat}
theorem pa_taken (hn : n ≤ 250) (hk : k < n) : ∃ v, fX0_firstFree_L12 w (pu_I n) (pu_I k) NF 0 0 = some v ∧ ((v = 0 ∧ ∀ j, j < n → w 16 j ≠ w 15 k) ∨ (v ≠ 0 ∧ ∃ j, j < n ∧ w 16 j = w 15 k)) := by
  have h := pv_for (G := fun m i (s : Int32) => fX0_firstFree_L12 w (pu_I n) (pu_I k) m s i) (hi := n)
    (Inv := fun j (s : Int32) => (s = 0 ∧ ∀ i, i < j → w 16 i ≠ w 15 k) ∨ (s = 1 ∧ ∃ i, i < n ∧ w 16 i = w 15 k))
    (Q := fun (v : Int32) => (v = 0 ∧ ∀ j, j < n → w 16 j ≠ w 15 k) ∨ (v ≠ 0 ∧ ∃ j, j < n ∧ w 16 j = w 15 k))
    (fun m j s hj hI => by
      have hL : fX0_firstFree_L12 w (pu_I n) (pu_I k) (m + 1) s (pu_I j) = (if s = 0 then (if w 16 j = w 15 k then fX0_firstFree_L12 w (pu_I n) (pu_I k) m 1 (pu_I (j + 1)) else fX0_firstFree_L12 w (pu_I n) (pu_I k) m 0 (pu_I (j + 1))) else fX0_firstFree_L12 w (pu_I n) (pu_I k) m 1 (pu_I (j + 1))) := by
        show (if pu_I n ≤ pu_I j then some s else (if s = 0 then (if ixb (pu_I j) 250 = true then (if ixb (pu_I k) 250 = true then (if (w 16 (nn (pu_I j))) = (w 15 (nn (pu_I k))) then (fX0_firstFree_J38 (fX0_firstFree_L12 w (pu_I n) (pu_I k) m) (pu_I j)) else (fX0_firstFree_J43 (fX0_firstFree_L12 w (pu_I n) (pu_I k) m) (pu_I j) 0)) else none) else none) else (fX0_firstFree_J38 (fX0_firstFree_L12 w (pu_I n) (pu_I k) m) (pu_I j)))) = _
        rw [if_neg (by rw [pu_le (by omega) (by omega)]; omega), if_pos ((pu_ix (by omega)).mpr (by omega)), if_pos ((pu_ix (by omega)).mpr (by omega)), pu_nn (show j < 2147483648 by omega), pu_nn (show k < 2147483648 by omega), ← pu_su j]
        rfl
      show ∃ s', fX0_firstFree_L12 w (pu_I n) (pu_I k) (m + 1) s (pu_I j) = fX0_firstFree_L12 w (pu_I n) (pu_I k) m s' (pu_I (j + 1)) ∧ _
      rw [hL]
      rcases hI with ⟨rfl, h1⟩ | ⟨rfl, h1⟩
      · rw [if_pos rfl]
        by_cases e : w 16 j = w 15 k
        · rw [if_pos e]
          exact ⟨1, rfl, Or.inr ⟨rfl, j, hj, e⟩⟩
        · rw [if_neg e]
          refine ⟨0, rfl, Or.inl ⟨rfl, fun i hi => ?_⟩⟩
          by_cases e2 : i = j
          · rw [e2]; exact e
          · exact h1 i (by omega)
      · rw [if_neg (show ¬ (1 : Int32) = 0 by decide)]
        exact ⟨1, rfl, Or.inr ⟨rfl, h1⟩⟩)
    (fun m s hI => by
      refine ⟨s, ?_, ?_⟩
      · show (if pu_I n ≤ pu_I n then some s else _) = _
        rw [if_pos (Int32.le_refl _)]
      · rcases hI with ⟨h0, h1⟩ | ⟨h0, h1⟩
        · exact Or.inl ⟨h0, h1⟩
        · exact Or.inr ⟨by rw [h0]; decide, h1⟩)
    n 0 NF 0 (by omega) (by have := pv_NF; omega) (Or.inl ⟨rfl, fun i hi => absurd hi (Nat.not_lt_zero i)⟩)
  exact h
theorem pa_firstFree (hn : n ≤ 250) : ∃ v, fX0_firstFree w (pu_I n) = some v ∧ ((∃ k, k < n ∧ v = pu_I k ∧ ∀ j, j < n → w 16 j ≠ w 15 k) ∨ (v = -1 ∧ ∀ k, k < n → ∃ j, j < n ∧ w 16 j = w 15 k)) := by
  have key : ∀ (m i q : Nat), i + m = n → m < q → (∀ k, k < i → ∃ j, j < n ∧ w 16 j = w 15 k) →
      (∃ k, k < n ∧ fX0_firstFree_L2 w (pu_I n) q (pu_I i) = some (.inl (pu_I k)) ∧ ∀ j, j < n → w 16 j ≠ w 15 k) ∨ (fX0_firstFree_L2 w (pu_I n) q (pu_I i) = some (.inr ()) ∧ ∀ k, k < n → ∃ j, j < n ∧ w 16 j = w 15 k) := by
    intro m
    induction m with
    | zero =>
      intro i q hi hq h
      obtain ⟨q', rfl⟩ : ∃ q', q = q' + 1 := ⟨q - 1, by omega⟩
      obtain rfl : i = n := by omega
      refine Or.inr ⟨?_, h⟩
      show (if pu_I i ≤ pu_I i then some (Sum.inr ()) else _) = _
      rw [if_pos (Int32.le_refl _)]
    | succ m ih =>
      intro i q hi hq h
      obtain ⟨q', rfl⟩ : ∃ q', q = q' + 1 := ⟨q - 1, by omega⟩
      obtain ⟨v, v1, v2⟩ := pa_taken (w := w) hn (show i < n by omega)
      have hL : fX0_firstFree_L2 w (pu_I n) (q' + 1) (pu_I i) = (if v = 0 then some (.inl (pu_I i)) else fX0_firstFree_L2 w (pu_I n) q' (pu_I (i + 1))) := by
        show (if pu_I n ≤ pu_I i then some (Sum.inr ()) else ((fX0_firstFree_L12 w (pu_I n) (pu_I i) NF 0 0).bind fun (o12 : Int32) => (if o12 = 0 then some (Sum.inl (pu_I i)) else ((fX0_firstFree_L2 w (pu_I n) q') (pu_I i + 1))))) = _
        rw [if_neg (by rw [pu_le (by omega) (by omega)]; omega), v1, Option.bind_some, pu_su]
      rw [hL]
      rcases v2 with ⟨h0, h1⟩ | ⟨h0, h1⟩
      · rw [if_pos h0]
        exact Or.inl ⟨i, by omega, rfl, h1⟩
      · rw [if_neg h0]
        refine ih (i + 1) q' (by omega) (by omega) fun k hk => ?_
        by_cases e : k = i
        · rw [e]; exact h1
        · exact h k (by omega)
  have h0 := key n 0 NF (by omega) (by have := pv_NF; omega) (fun k hk => absurd hk (Nat.not_lt_zero k))
  rcases h0 with ⟨k, k1, k2, k3⟩ | ⟨k1, k2⟩
  · refine ⟨pu_I k, ?_, Or.inl ⟨k, k1, rfl, k3⟩⟩
    have k2 : fX0_firstFree_L2 w (pu_I n) NF 0 = some (.inl (pu_I k)) := k2
    unfold fX0_firstFree
    rw [k2]
    rfl
  · refine ⟨-1, ?_, Or.inr ⟨rfl, k2⟩⟩
    have k1 : fX0_firstFree_L2 w (pu_I n) NF 0 = some (.inr ()) := k1
    unfold fX0_firstFree
    rw [k1]
    rfl
/-- the moves that are left -/
def pa_l (w : ST) (n : Nat) : List (Int32 × Int32) := (List.range n).map (fun k => (w 15 k, w 16 k))
/-- a value that is saved: all that want it take it from its new place -/
theorem pa_save27 (hn : n ≤ 250) {w0 : ST} {p2v : Nat} (hw : w 0 8 = pu_I p2v) : ∃ w', fX0_saveFirst_L27 w0 (pu_I n) NF 0 w = some w' ∧ (∀ j, j < n → w' 16 j = if w 16 j = w0 15 0 then pu_I p2v else w 16 j) ∧ (∀ j, n ≤ j → w' 16 j = w 16 j) ∧ (∀ r, r ≠ 16 → w' r = w r) := by
  have h := pv_for (G := fun m i (s : ST) => fX0_saveFirst_L27 w0 (pu_I n) m i s) (hi := n)
    (Inv := fun i (s : ST) => (∀ j, j < i → s 16 j = if w 16 j = w0 15 0 then pu_I p2v else w 16 j) ∧ (∀ j, i ≤ j → s 16 j = w 16 j) ∧ (∀ r, r ≠ 16 → s r = w r))
    (Q := fun (s : ST) => (∀ j, j < n → s 16 j = if w 16 j = w0 15 0 then pu_I p2v else w 16 j) ∧ (∀ j, n ≤ j → s 16 j = w 16 j) ∧ (∀ r, r ≠ 16 → s r = w r))
    (fun m i s hi hI => by
      obtain ⟨i1, i2, i3⟩ := hI
      have hL : fX0_saveFirst_L27 w0 (pu_I n) (m + 1) (pu_I i) s = (if s 16 i = w0 15 0 then fX0_saveFirst_L27 w0 (pu_I n) m (pu_I (i + 1)) (upw s 16 i (s 0 8)) else fX0_saveFirst_L27 w0 (pu_I n) m (pu_I (i + 1)) s) := by
        show (if pu_I n ≤ pu_I i then some s else (if ixb (pu_I i) 250 = true then (if (s 16 (nn (pu_I i))) = (w0 15 (nn 0)) then (if ixb (pu_I i) 250 = true then (lt9 (upw s 16 (nn (pu_I i)) (s 0 8)) fun (w18 : ST) => (fX0_saveFirst_J55 (fX0_saveFirst_L27 w0 (pu_I n) m) (pu_I i) w18)) else none) else (fX0_saveFirst_J55 (fX0_saveFirst_L27 w0 (pu_I n) m) (pu_I i) s)) else none)) = _
        rw [if_neg (by rw [pu_le (by omega) (by omega)]; omega), if_pos ((pu_ix (by omega)).mpr (by omega)), if_pos ((pu_ix (by omega)).mpr (by omega)), pu_nn (show i < 2147483648 by omega), ← pu_su i]
        rfl
      show ∃ s', fX0_saveFirst_L27 w0 (pu_I n) (m + 1) (pu_I i) s = fX0_saveFirst_L27 w0 (pu_I n) m (pu_I (i + 1)) s' ∧ _
      rw [hL]
      have hsi := i2 i (Nat.le_refl i)
      by_cases e : s 16 i = w0 15 0
      · rw [if_pos e]
        refine ⟨_, rfl, fun j hj => ?_, fun j hj => ?_, fun r hr => by rw [pv_upw_n hr, i3 r hr]⟩
        · rw [pv_upw]
          by_cases e2 : j = i
          · rw [if_pos ⟨rfl, e2⟩, e2, ← hsi, if_pos e, i3 0 (by decide), hw]
          · rw [if_neg fun h => e2 h.2]; exact i1 j (by omega)
        · rw [pv_upw, if_neg fun h => by omega]; exact i2 j (by omega)
      · rw [if_neg e]
        refine ⟨s, rfl, fun j hj => ?_, fun j hj => i2 j (by omega), i3⟩
        by_cases e2 : j = i
        · rw [e2, ← hsi, if_neg e]
        · exact i1 j (by omega))
    (fun m s hI => ⟨s, by
      show (if pu_I n ≤ pu_I n then some s else _) = _
      rw [if_pos (Int32.le_refl _)], hI⟩)
    n 0 NF w (by omega) (by have := pv_NF; omega) ⟨fun j hj => absurd hj (Nat.not_lt_zero j), fun j _ => rfl, fun r _ => rfl⟩
  exact h
/-- a move that is done is taken out -/
theorem pa_out154 {q : Nat} (hn : n < 250) (hq : q ≤ n) : ∃ w', fX0_putCopies_L154 (pu_I (n + 1)) NF (pu_I q) w = some w' ∧ (∀ j, j < q → w' 15 j = w 15 j ∧ w' 16 j = w 16 j) ∧ (∀ j, q ≤ j → j < n → w' 15 j = w 15 (j + 1) ∧ w' 16 j = w 16 (j + 1)) ∧ (∀ r, r ≠ 15 → r ≠ 16 → w' r = w r) := by
  have hm1 : pu_I (n + 1) + (-1) = pu_I n := by
    rw [← pu_su, Int32.add_assoc]
    show pu_I n + 0 = _
    exact Int32.add_zero _
  have h := pv_for (G := fun m i (s : ST) => fX0_putCopies_L154 (pu_I (n + 1)) m i s) (hi := n)
    (Inv := fun i (s : ST) => q ≤ i ∧ (∀ j, j < q → s 15 j = w 15 j ∧ s 16 j = w 16 j) ∧ (∀ j, q ≤ j → j < i → s 15 j = w 15 (j + 1) ∧ s 16 j = w 16 (j + 1)) ∧ (∀ j, i ≤ j → s 15 j = w 15 j ∧ s 16 j = w 16 j) ∧ (∀ r, r ≠ 15 → r ≠ 16 → s r = w r))
    (Q := fun (s : ST) => (∀ j, j < q → s 15 j = w 15 j ∧ s 16 j = w 16 j) ∧ (∀ j, q ≤ j → j < n → s 15 j = w 15 (j + 1) ∧ s 16 j = w 16 (j + 1)) ∧ (∀ r, r ≠ 15 → r ≠ 16 → s r = w r))
    (fun m i s hi hI => by
      obtain ⟨i0, i1, i2, i3, i4⟩ := hI
      obtain ⟨a1, a2⟩ := i3 (i + 1) (by omega)
      refine ⟨upw (upw s 15 i (s 15 (i + 1))) 16 i (s 16 (i + 1)), ?_, by omega, fun j hj => ?_, fun j h1 h2 => ?_, fun j hj => ?_, fun r r15 r16 => by rw [pv_upw_n r16, pv_upw_n r15, i4 r r15 r16]⟩
      · show (if (pu_I (n + 1) + (-1)) ≤ pu_I i then some s else (if ixb (pu_I i + 1) 250 = true then (if ixb (pu_I i) 250 = true then (lt9 (upw s 15 (nn (pu_I i)) (s 15 (nn (pu_I i + 1)))) fun (w49 : ST) => (if ixb (pu_I i + 1) 250 = true then (if ixb (pu_I i) 250 = true then (lt9 (upw w49 16 (nn (pu_I i)) (w49 16 (nn (pu_I i + 1)))) fun (w52 : ST) => ((fX0_putCopies_L154 (pu_I (n + 1)) m) (pu_I i + 1) w52)) else none) else none)) else none) else none)) = _
        simp only [lt9]
        rw [hm1, if_neg (by rw [pu_le (by omega) (by omega)]; omega), pu_su, if_pos ((pu_ix (by omega)).mpr (by omega)), if_pos ((pu_ix (by omega)).mpr (by omega)), pu_nn (show i < 2147483648 by omega), pu_nn (show i + 1 < 2147483648 by omega), if_pos ((pu_ix (by omega)).mpr (by omega)), if_pos ((pu_ix (by omega)).mpr (by omega)), pv_upw_n (show (16 : Nat) ≠ 15 by decide)]
      · rw [pv_upw_n (show (15 : Nat) ≠ 16 by decide), pv_upw, if_neg fun h => by omega, pv_upw, if_neg fun h => by omega, pv_upw_n (show (16 : Nat) ≠ 15 by decide)]
        exact i1 j hj
      · rw [pv_upw_n (show (15 : Nat) ≠ 16 by decide), pv_upw, pv_upw, pv_upw_n (show (16 : Nat) ≠ 15 by decide)]
        by_cases e : j = i
        · rw [if_pos ⟨rfl, e⟩, if_pos ⟨rfl, e⟩, e]
          exact ⟨a1, a2⟩
        · rw [if_neg fun h => e h.2, if_neg fun h => e h.2]
          exact i2 j h1 (by omega)
      · rw [pv_upw_n (show (15 : Nat) ≠ 16 by decide), pv_upw, if_neg fun h => by omega, pv_upw, if_neg fun h => by omega, pv_upw_n (show (16 : Nat) ≠ 15 by decide)]
        exact i3 j (by omega))
    (fun m s hI => ⟨s, by
      show (if (pu_I (n + 1) + (-1)) ≤ pu_I n then some s else _) = _
      rw [hm1, if_pos (Int32.le_refl _)], hI.2.1, hI.2.2.1, hI.2.2.2.2⟩)
    (n - q) q NF w (by omega) (by have := pv_NF; omega) ⟨Nat.le_refl q, fun j _ => ⟨rfl, rfl⟩, fun j h1 h2 => by omega, fun j _ => ⟨rfl, rfl⟩, fun r _ _ => rfl⟩
  exact h
end CPA
