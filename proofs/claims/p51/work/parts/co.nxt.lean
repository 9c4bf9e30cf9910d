/-! pure side, the graph 18: the next one to take away -/
section NXT
variable {n : Nat → Nat} {w : ST} {l : SL} {V H wd : Nat}
theorem pg_nx64 (hV : V < 100000) (h14 : V ≤ n 14) (h18 : V ≤ n 18) {kk : Int32 → Int32 → Option (Sum Int32 Int32)} {i : Nat} (hi : i < V) {v2 : Int32} (h2 : v2 < 0 ∨ ∃ c, c < V ∧ v2 = pu_I c) :
    (fX2_nextToTake_J64 kk n w l v2 (pu_I i) = kk (pu_I i) (pu_I (i + 1))) ∨ (¬ v2 < 0 ∧ fX2_nextToTake_J64 kk n w l v2 (pu_I i) = kk v2 (pu_I (i + 1))) := by
  unfold fX2_nextToTake_J64 fX2_nextToTake_J100 fX2_nextToTake_J102
  rw [pu_su]
  by_cases e : v2 < 0
  · rw [if_pos e]
    exact Or.inl rfl
  · rw [if_neg e]
    rcases h2 with h2 | ⟨c, hc, rfl⟩
    · exact absurd h2 e
    · rw [if_pos ((pu_ix (by omega)).mpr (by omega)), if_pos ((pu_ix (by omega)).mpr (by omega)), if_pos ((pu_ix (by omega)).mpr (by omega)), if_pos ((pu_ix (by omega)).mpr (by omega))]
      by_cases q : 0 ≤ lg_cmp ((l 14 (nn (pu_I i))) * (((w 18 (nn (pu_I c))) : Int32).toInt64)) ((l 14 (nn (pu_I c))) * (((w 18 (nn (pu_I i))) : Int32).toInt64))
      · rw [if_pos q]
        exact Or.inr ⟨e, rfl⟩
      · rw [if_neg q]
        exact Or.inl rfl
theorem pg_nx4 (hw0 : w 0 0 = pu_I H) (hw1 : w 0 1 = pu_I V) (hV : V < 100000) (hHV : H ≤ V) (h14 : V ≤ n 14) (h18 : V ≤ n 18) (K : Int32) :
    ∀ (m i k : Nat) (v2 : Int32), i + m = V → m < k → ((v2 = -1 ∧ ∀ u, u < i → w 18 u = -1) ∨ ∃ c, c < i ∧ v2 = pu_I c ∧ w 18 c ≠ -1 ∧ (c < H ∨ ∀ h, h < H → w 18 h = -1)) →
      ∃ o, fX2_nextToTake_L4 n w l K k v2 (pu_I i) = some o ∧ ((∃ c, c < V ∧ o = .inl (pu_I c) ∧ w 18 c ≠ -1 ∧ w 18 c < K) ∨ (o = .inr (-1) ∧ ∀ u, u < V → w 18 u = -1) ∨ ∃ c, c < V ∧ o = .inr (pu_I c) ∧ w 18 c ≠ -1 ∧ (c < H ∨ ∀ h, h < H → w 18 h = -1)) := by
  intro m
  induction m with
  | zero =>
    intro i k v2 hi hk hI
    obtain ⟨k', rfl⟩ : ∃ k', k = k' + 1 := ⟨k - 1, by omega⟩
    obtain rfl : i = V := by omega
    refine ⟨.inr v2, ?_, Or.inr ?_⟩
    · show (if (w 0 1) ≤ pu_I i then some (Sum.inr v2) else _) = _
      rw [hw1, if_pos (Int32.le_refl _)]
    · rcases hI with ⟨rfl, h⟩ | ⟨c, h1, rfl, h2, h3⟩
      · exact Or.inl ⟨rfl, h⟩
      · exact Or.inr ⟨c, h1, rfl, h2, h3⟩
  | succ m ih =>
    intro i k v2 hi hk hI
    obtain ⟨k', rfl⟩ : ∃ k', k = k' + 1 := ⟨k - 1, by omega⟩
    have hiV : i < V := by omega
    have hix : ixb (pu_I i) (n 18) = true := (pu_ix (by omega)).mpr (by omega)
    have h2 : v2 < 0 ∨ ∃ c, c < V ∧ v2 = pu_I c := by
      rcases hI with ⟨rfl, _⟩ | ⟨c, h1, h2, _⟩
      · exact Or.inl (by decide)
      · exact Or.inr ⟨c, by omega, h2⟩
    have hgo : fX2_nextToTake_L4 n w l K (k' + 1) v2 (pu_I i) = (if w 18 i = -1 then fX2_nextToTake_J34 (fX2_nextToTake_L4 n w l K k') n w l v2 (pu_I i) else (if K ≤ w 18 i then fX2_nextToTake_J34 (fX2_nextToTake_L4 n w l K k') n w l v2 (pu_I i) else some (Sum.inl (pu_I i)))) := by
      show (if (w 0 1) ≤ pu_I i then some (Sum.inr v2) else (if ixb (pu_I i) (n 18) = true then (if (w 18 (nn (pu_I i))) = (-1) then (fX2_nextToTake_J34 (fX2_nextToTake_L4 n w l K k') n w l v2 (pu_I i)) else (if ixb (pu_I i) (n 18) = true then (if K ≤ (w 18 (nn (pu_I i))) then (fX2_nextToTake_J34 (fX2_nextToTake_L4 n w l K k') n w l v2 (pu_I i)) else some (Sum.inl (pu_I i))) else none)) else none)) = _
      rw [hw1, if_neg (by rw [pu_le (by omega) (by omega)]; omega), if_pos hix, pu_nn (by omega), if_pos hix]
    have hJ34 : fX2_nextToTake_J34 (fX2_nextToTake_L4 n w l K k') n w l v2 (pu_I i) = (if w 18 i = -1 then fX2_nextToTake_L4 n w l K k' v2 (pu_I (i + 1)) else (if i < H then fX2_nextToTake_J64 (fX2_nextToTake_L4 n w l K k') n w l v2 (pu_I i) else (if v2 < 0 then fX2_nextToTake_J64 (fX2_nextToTake_L4 n w l K k') n w l v2 (pu_I i) else (if v2 < pu_I H then fX2_nextToTake_L4 n w l K k' v2 (pu_I (i + 1)) else fX2_nextToTake_J64 (fX2_nextToTake_L4 n w l K k') n w l v2 (pu_I i))))) := by
      unfold fX2_nextToTake_J34 fX2_nextToTake_J102
      rw [if_pos hix, pu_nn (by omega), hw0, pu_su]
      by_cases q : i < H
      · rw [if_pos ((pu_lt (by omega) (by omega)).mpr q), if_pos q]
      · rw [if_neg (fun h => q ((pu_lt (by omega) (by omega)).mp h)), if_neg q]
    rw [hgo]
    by_cases e : w 18 i = -1
    · rw [if_pos e, hJ34, if_pos e]
      refine ih (i + 1) k' v2 (by omega) (by omega) ?_
      rcases hI with ⟨r1, r2⟩ | ⟨c, r1, r2⟩
      · refine Or.inl ⟨r1, fun u hu => ?_⟩
        by_cases q : u = i
        · rw [q]; exact e
        · exact r2 u (by omega)
      · exact Or.inr ⟨c, by omega, r2⟩
    · rw [if_neg e]
      by_cases eK : K ≤ w 18 i
      · rw [if_pos eK, hJ34, if_neg e]
        have hst : ∀ v3, v3 = v2 → ¬ v2 < 0 → ∃ o, fX2_nextToTake_L4 n w l K k' v2 (pu_I (i + 1)) = some o ∧ ((∃ c, c < V ∧ o = .inl (pu_I c) ∧ w 18 c ≠ -1 ∧ w 18 c < K) ∨ (o = .inr (-1) ∧ ∀ u, u < V → w 18 u = -1) ∨ ∃ c, c < V ∧ o = .inr (pu_I c) ∧ w 18 c ≠ -1 ∧ (c < H ∨ ∀ h, h < H → w 18 h = -1)) := fun v3 h3 hnn => by
          refine ih (i + 1) k' v2 (by omega) (by omega) ?_
          rcases hI with ⟨r1, r2⟩ | ⟨c, r1, r2⟩
          · rw [r1] at hnn
            exact absurd (by decide) hnn
          · exact Or.inr ⟨c, by omega, r2⟩
        have hnw : (i < H ∨ ∀ h, h < H → w 18 h = -1) → ∃ o, fX2_nextToTake_L4 n w l K k' (pu_I i) (pu_I (i + 1)) = some o ∧ ((∃ c, c < V ∧ o = .inl (pu_I c) ∧ w 18 c ≠ -1 ∧ w 18 c < K) ∨ (o = .inr (-1) ∧ ∀ u, u < V → w 18 u = -1) ∨ ∃ c, c < V ∧ o = .inr (pu_I c) ∧ w 18 c ≠ -1 ∧ (c < H ∨ ∀ h, h < H → w 18 h = -1)) := fun h =>
          ih (i + 1) k' (pu_I i) (by omega) (by omega) (Or.inr ⟨i, by omega, rfl, e, h⟩)
        have h64 : (i < H ∨ ∀ h, h < H → w 18 h = -1) → ∃ o, fX2_nextToTake_J64 (fX2_nextToTake_L4 n w l K k') n w l v2 (pu_I i) = some o ∧ ((∃ c, c < V ∧ o = .inl (pu_I c) ∧ w 18 c ≠ -1 ∧ w 18 c < K) ∨ (o = .inr (-1) ∧ ∀ u, u < V → w 18 u = -1) ∨ ∃ c, c < V ∧ o = .inr (pu_I c) ∧ w 18 c ≠ -1 ∧ (c < H ∨ ∀ h, h < H → w 18 h = -1)) := fun h => by
          rcases pg_nx64 (n := n) (w := w) (l := l) hV h14 h18 (kk := fX2_nextToTake_L4 n w l K k') hiV h2 with q | ⟨q1, q⟩
          · rw [q]; exact hnw h
          · rw [q]; exact hst v2 rfl q1
        by_cases eH : i < H
        · rw [if_pos eH]
          exact h64 (Or.inl eH)
        · rw [if_neg eH]
          by_cases e2 : v2 < 0
          · rw [if_pos e2]
            refine h64 (Or.inr fun h hh => ?_)
            rcases hI with ⟨r1, r2⟩ | ⟨c, r1, rfl, r2⟩
            · exact r2 h (by omega)
            · exact absurd e2 (pu_ge (by omega))
          · rw [if_neg e2]
            by_cases e3 : v2 < pu_I H
            · rw [if_pos e3]
              exact hst v2 rfl e2
            · rw [if_neg e3]
              refine h64 (Or.inr fun h hh => ?_)
              rcases hI with ⟨r1, r2⟩ | ⟨c, r1, rfl, r2, r3⟩
              · exact r2 h (by omega)
              · rcases r3 with r3 | r3
                · exact absurd ((pu_lt (by omega) (by omega)).mpr r3) e3
                · exact r3 h hh
      · rw [if_neg eK]
        exact ⟨_, rfl, Or.inl ⟨i, hiV, rfl, e, Int32.not_le.mp eK⟩⟩
/-- one that isn't taken yet; a guest only if it is light or no home is left -/
theorem pg_nextToTake (hsh : pg_shp n w l H V wd) (K : Int32) (hex : ∃ u, u < V ∧ w 18 u ≠ -1) :
    ∃ c, c < V ∧ fX2_nextToTake n w l K = some (pu_I c) ∧ w 18 c ≠ -1 ∧ (w 18 c < K ∨ c < H ∨ ∀ h, h < H → w 18 h = -1) := by
  obtain ⟨⟨a0, a1, a2⟩, ⟨b1, b2, b3, b4⟩, ⟨c1, c2⟩, ⟨d12, d13, d14, d15, d16, d17, d18, d19⟩, hcol, hmt⟩ := id hsh
  obtain ⟨o, e1, e2⟩ := pg_nx4 (n := n) (l := l) a0 a1 b2 b4 d14 d18 K V 0 NF (-1) (by omega) (by have := pv_NF; omega) (Or.inl ⟨rfl, fun u hu => by omega⟩)
  unfold fX2_nextToTake
  rw [show fX2_nextToTake_L4 n w l K NF (-1) 0 = some o from e1, Option.bind_some]
  rcases e2 with ⟨c, h1, rfl, h2, h3⟩ | ⟨rfl, h⟩ | ⟨c, h1, rfl, h2, h3⟩
  · exact ⟨c, h1, rfl, h2, Or.inl h3⟩
  · obtain ⟨u, hu, hne⟩ := hex
    exact absurd (h u hu) hne
  · exact ⟨c, h1, rfl, h2, Or.inr h3⟩
end NXT
